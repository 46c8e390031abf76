def wo_k_X1_init : List Cond := [.methodLink RX1 3 objectInit, .instanceMethod objectInit, .code objectInit ⟨#[0xb1]⟩ 1 none, .arrayClass .int, .fieldLink RX1 9 "ReplicaChain$Plan" "members" "[I", .arrayClass .long, .fieldLink RX1 15 "ReplicaChain$Plan" "nodeNames" "[J", .fieldLink RX1 19 "ReplicaChain$Plan" "keyNames" "[J", .classLink RX1 22 RX0, .instantiable RX0 4, .initialized RX0, .instanceMethod yX0_init, .fieldLink RX1 25 "ReplicaChain$Plan" "slow" "LReplicaChain$Formula;", .methodLink RX1 29 yX1_clear, .instanceMethod yX1_clear, .selects RX1 yX1_clear yX1_clear, .initialized RX1]
def wq_k_X1_init : List Cond := .code yX1_init cX1_init 1 none :: (wo_k_X1_init ++ (wq_k_X0_init_v2 ++ (wq_k_X1_clear_v3 ++ (wsX00 ++ (wsX10 ++ [])))))
theorem gd_k_X1_init : Gd wq_k_X1_init := gd_c (gd_a (gd_o (by decide +kernel)) (gd_a gd_k_X0_init_v2 (gd_a gd_k_X1_clear_v3 (gd_a gd_u (gd_a gd_u gd_0)))))
abbrev wc_k_X1_init (cyB cyI cyJ cyZ cyO : ClassId) (q3796 : Nat) : va_W := [(q3796, .inr (1, [.null, .null, .null, .null, .int 0, .int 0, .int 0, .int 0, .int 0, .int 0, .int 0]))]
set_option maxHeartbeats 4000000 in
set_option maxRecDepth 100000 in
theorem k_X1_init (l : Launch) (dC : Nat → ClassId) (dI : Nat → Nat → Nat) (cyB cyI cyJ cyZ cyO : ClassId) (q3796 : Nat) (sz : Nat) : Met l yX1_init wq_k_X1_init ({ frames := 2, cells := 7, slots := 329, locals := 40 }) (va_Pc [.ref q3796] (cB (dC, dI) (kT cyB cyI cyJ cyZ cyO) (wc_k_X1_init cyB cyI cyJ cyZ cyO q3796) sz)) (va_Qv (fun _ => True) (fun (u : Nat → Nat) t => cE (dC, dI) (va_A (wc_k_X1_init cyB cyI cyJ cyZ cyO q3796) sz) ([(q3796, .inr (1, [.ref (u 0), .ref (u 1), .ref (u 2), .ref (u 6), .int 0, .int 0, .int 0, .int 0, .int 2, .int 0, .int 0])), (u 0, .inl (cyI, 6, .inl (fun _ => 0))), (u 1, .inl (cyJ, 8, .inr (.inl (fun _ => 0)))), (u 2, .inl (cyJ, 4, .inr (.inl (fun _ => 0)))), (u 3, .inl (cyI, 270, .inl (fun _ => 0))), (u 4, .inl (cyI, 31, .inl (fun _ => 0))), (u 5, .inl (cyI, 6, .inl (fun _ => 0))), (u 6, .inr (0, [.ref (u 3), .ref (u 4), .ref (u 5), .int 0]))]) t.heap) (va_A (wc_k_X1_init cyB cyI cyJ cyZ cyO q3796) sz)) 7 329 (va_A (wc_k_X1_init cyB cyI cyJ cyZ cyO q3796) sz) := by
  refine Met.ofW (cc := cX1_init) (maxL := 1) (ret := none) (by decide) rfl ?_
  intro p e s m args below meth c s₁ B hml hv
  obtain ⟨rfl, hsz, hP, hKN, hD0⟩ := hv
  have hx := B.exec
  have hb := B.bytes
  have hr := B.returns
  have hts := atoms_spec (ws := wq_k_X1_init) B.pre
  have hown : s.vm.findClass RX1 = some m.cls := findClass_of_methodNamed B.named
  have hlocks := B.notSynchronized
  have hin : meth.name = "<init>" := (name_of_methodNamed B.named B.method).1
  have hK := hKN.1
  have hfix : CallFix p m c cX1_init 1 s [.ref q3796].toArray wq_k_X1_init RX1 := ⟨hx, hb, hml, hown, hts⟩
  have hi0 : ∀ w ∈ wsX00, w ∈ wq_k_X1_init := (sb_c (sb_r (sb_r sb_l)))
  have hi1 : ∀ w ∈ wsX10, w ∈ wq_k_X1_init := (sb_c (sb_r (sb_r (sb_r sb_l))))
  subst hsz
  have hD := hD0.self (sz := s.heap.size)
  generalize hAe : va_A (wc_k_X1_init cyB cyI cyJ cyZ cyO q3796) s.heap.size = A at hD ⊢
  have hA : ∀ q : Nat, s.heap.size ≤ q → A q := fun q h => by rw [← hAe]; exact Or.inr h
  have hS : va_S A s.heap s.heap [] := va_S.rf
  have hl := lv_entry ([.ref q3796]) (n := 1) (Nat.le_of_ble_eq_true rfl)
  rw [lg_entry_eq]
  generalize (lg_sl ([.ref q3796]) ++ List.replicate (1 - (lg_sl ([.ref q3796])).length) Slot.unset).toArray = ls at hl ⊢
  have hl : lv_has ls 1 [(0, .ref q3796)] := hl
  refine lv_aload_n hx hb dX1_init_0 rfl (lv_at hl 0 rfl) ?_
  refine W.objInit hx hb hown (hts _ (ow_m (k := 0) rfl)) (hts _ (ow_m (k := 1) rfl)) (hts _ (ow_m (k := 2) rfl)) rfl (by rw [hml]; exact hl.1) rfl dX1_init_1 (Nat.le_of_ble_eq_true rfl) (Nat.le_of_ble_eq_true rfl) ?_
  refine W.eq (g2 := F0 m 4 ls []) rfl ?_
  refine lv_aload_n hx hb dX1_init_4 rfl (lv_at hl 0 rfl) ?_
  refine lv_bipush (v := 6) hx hb dX1_init_5 (by decide) ?_
  refine g_newa (a0 := (6, .inl (fun _ => 0))) hx hb (hts _ (ow_m (k := 3) rfl)) rfl hKN hP hD hS hA 1 rfl rfl (fun _ => rfl) (by decide) (by decide) (by decide) (Nat.le_of_ble_eq_true rfl) (Nat.le_of_ble_eq_true rfl) dX1_init_7 (fun q3815 H hP hD hS => ?_)
  have hP : va_P (dC, dI) vwCl [(q3796, .inr (1, [.null, .null, .null, .null, .int 0, .int 0, .int 0, .int 0, .int 0, .int 0, .int 0])), (q3815, .inl (cyI, 6, .inl (fun _ => 0)))] H := hP
  have hD : va_D A [(q3796, .inr (1, [.null, .null, .null, .null, .int 0, .int 0, .int 0, .int 0, .int 0, .int 0, .int 0])), (q3815, .inl (cyI, 6, .inl (fun _ => 0)))] := hD
  refine W.widen (k := 1) (n := 6) (by omega) (by omega) ?_
  refine va_putF (D := (dC, dI)) (ci := 1) (v := .ref q3815) (ty := .array .int) (C := RX1) (T := TX1) (N := 11) hx hb hts hi1 tyX1 tyX1_ok nmX1 hown hK hP hD hS 0 rfl rfl 0 (by decide) (hts _ (ow_m (k := 4) rfl)) (fun _ h9 => h9) rfl hin rfl (by decide +kernel) rfl rfl (Nat.le_of_ble_eq_true rfl) dX1_init_9 (fun H locs hP hD hS => ?_)
  have hP : va_P (dC, dI) vwCl [(q3796, .inr (1, [.ref q3815, .null, .null, .null, .int 0, .int 0, .int 0, .int 0, .int 0, .int 0, .int 0])), (q3815, .inl (cyI, 6, .inl (fun _ => 0)))] H := hP
  have hD : va_D A [(q3796, .inr (1, [.ref q3815, .null, .null, .null, .int 0, .int 0, .int 0, .int 0, .int 0, .int 0, .int 0])), (q3815, .inl (cyI, 6, .inl (fun _ => 0)))] := hD
  refine lv_aload_n hx hb dX1_init_12 rfl (lv_at hl 0 rfl) ?_
  refine lv_bipush (v := 8) hx hb dX1_init_13 (by decide) ?_
  refine g_newa (a0 := (8, .inr (.inl (fun _ => 0)))) hx hb (hts _ (ow_m (k := 5) rfl)) rfl hKN hP hD hS hA 2 rfl rfl (fun _ => rfl) (by decide) (by decide) (by decide) (Nat.le_of_ble_eq_true rfl) (Nat.le_of_ble_eq_true rfl) dX1_init_15 (fun q3816 H hP hD hS => ?_)
  have hP : va_P (dC, dI) vwCl [(q3796, .inr (1, [.ref q3815, .null, .null, .null, .int 0, .int 0, .int 0, .int 0, .int 0, .int 0, .int 0])), (q3815, .inl (cyI, 6, .inl (fun _ => 0))), (q3816, .inl (cyJ, 8, .inr (.inl (fun _ => 0))))] H := hP
  have hD : va_D A [(q3796, .inr (1, [.ref q3815, .null, .null, .null, .int 0, .int 0, .int 0, .int 0, .int 0, .int 0, .int 0])), (q3815, .inl (cyI, 6, .inl (fun _ => 0))), (q3816, .inl (cyJ, 8, .inr (.inl (fun _ => 0))))] := hD
  refine W.widen (k := 2) (n := 14) (by omega) (by omega) ?_
  refine va_putF (D := (dC, dI)) (ci := 1) (v := .ref q3816) (ty := .array .long) (C := RX1) (T := TX1) (N := 11) hx hb hts hi1 tyX1 tyX1_ok nmX1 hown hK hP hD hS 0 rfl rfl 1 (by decide) (hts _ (ow_m (k := 6) rfl)) (fun _ h9 => h9) rfl hin rfl (by decide +kernel) rfl rfl (Nat.le_of_ble_eq_true rfl) dX1_init_17 (fun H locs hP hD hS => ?_)
  have hP : va_P (dC, dI) vwCl [(q3796, .inr (1, [.ref q3815, .ref q3816, .null, .null, .int 0, .int 0, .int 0, .int 0, .int 0, .int 0, .int 0])), (q3815, .inl (cyI, 6, .inl (fun _ => 0))), (q3816, .inl (cyJ, 8, .inr (.inl (fun _ => 0))))] H := hP
  have hD : va_D A [(q3796, .inr (1, [.ref q3815, .ref q3816, .null, .null, .int 0, .int 0, .int 0, .int 0, .int 0, .int 0, .int 0])), (q3815, .inl (cyI, 6, .inl (fun _ => 0))), (q3816, .inl (cyJ, 8, .inr (.inl (fun _ => 0))))] := hD
  refine lv_aload_n hx hb dX1_init_20 rfl (lv_at hl 0 rfl) ?_
  refine lv_iconst (v := 4) hx hb dX1_init_21 (by decide) ?_
  refine g_newa (a0 := (4, .inr (.inl (fun _ => 0)))) hx hb (hts _ (ow_m (k := 5) rfl)) rfl hKN hP hD hS hA 2 rfl rfl (fun _ => rfl) (by decide) (by decide) (by decide) (Nat.le_of_ble_eq_true rfl) (Nat.le_of_ble_eq_true rfl) dX1_init_22 (fun q3817 H hP hD hS => ?_)
  have hP : va_P (dC, dI) vwCl [(q3796, .inr (1, [.ref q3815, .ref q3816, .null, .null, .int 0, .int 0, .int 0, .int 0, .int 0, .int 0, .int 0])), (q3815, .inl (cyI, 6, .inl (fun _ => 0))), (q3816, .inl (cyJ, 8, .inr (.inl (fun _ => 0)))), (q3817, .inl (cyJ, 4, .inr (.inl (fun _ => 0))))] H := hP
  have hD : va_D A [(q3796, .inr (1, [.ref q3815, .ref q3816, .null, .null, .int 0, .int 0, .int 0, .int 0, .int 0, .int 0, .int 0])), (q3815, .inl (cyI, 6, .inl (fun _ => 0))), (q3816, .inl (cyJ, 8, .inr (.inl (fun _ => 0)))), (q3817, .inl (cyJ, 4, .inr (.inl (fun _ => 0))))] := hD
  refine W.widen (k := 3) (n := 18) (by omega) (by omega) ?_
  refine va_putF (D := (dC, dI)) (ci := 1) (v := .ref q3817) (ty := .array .long) (C := RX1) (T := TX1) (N := 11) hx hb hts hi1 tyX1 tyX1_ok nmX1 hown hK hP hD hS 0 rfl rfl 2 (by decide) (hts _ (ow_m (k := 7) rfl)) (fun _ h9 => h9) rfl hin rfl (by decide +kernel) rfl rfl (Nat.le_of_ble_eq_true rfl) dX1_init_24 (fun H locs hP hD hS => ?_)
  have hP : va_P (dC, dI) vwCl [(q3796, .inr (1, [.ref q3815, .ref q3816, .ref q3817, .null, .int 0, .int 0, .int 0, .int 0, .int 0, .int 0, .int 0])), (q3815, .inl (cyI, 6, .inl (fun _ => 0))), (q3816, .inl (cyJ, 8, .inr (.inl (fun _ => 0)))), (q3817, .inl (cyJ, 4, .inr (.inl (fun _ => 0))))] H := hP
  have hD : va_D A [(q3796, .inr (1, [.ref q3815, .ref q3816, .ref q3817, .null, .int 0, .int 0, .int 0, .int 0, .int 0, .int 0, .int 0])), (q3815, .inl (cyI, 6, .inl (fun _ => 0))), (q3816, .inl (cyJ, 8, .inr (.inl (fun _ => 0)))), (q3817, .inl (cyJ, 4, .inr (.inl (fun _ => 0))))] := hD
  refine lv_aload_n hx hb dX1_init_27 rfl (lv_at hl 0 rfl) ?_
  refine va_new (ci := 0) (fs := [.null, .null, .null, .int 0]) (C := RX0) (T := TX0) (N := 4) hx hb hts hi0 tyX0 tyX0_ok hown (hts _ (ow_m (k := 8) rfl)) (hts _ (ow_m (k := 9) rfl)) (hts _ (ow_m (k := 10) rfl)) hK hP hD hS hA rfl (by decide) (Nat.le_of_ble_eq_true rfl) (Nat.le_of_ble_eq_true rfl) dX1_init_28 (fun q3818 H hP hD hS => ?_)
  have hP : va_P (dC, dI) vwCl [(q3796, .inr (1, [.ref q3815, .ref q3816, .ref q3817, .null, .int 0, .int 0, .int 0, .int 0, .int 0, .int 0, .int 0])), (q3815, .inl (cyI, 6, .inl (fun _ => 0))), (q3816, .inl (cyJ, 8, .inr (.inl (fun _ => 0)))), (q3817, .inl (cyJ, 4, .inr (.inl (fun _ => 0)))), (q3818, .inr (0, [.null, .null, .null, .int 0]))] H := hP
  have hD : va_D A [(q3796, .inr (1, [.ref q3815, .ref q3816, .ref q3817, .null, .int 0, .int 0, .int 0, .int 0, .int 0, .int 0, .int 0])), (q3815, .inl (cyI, 6, .inl (fun _ => 0))), (q3816, .inl (cyJ, 8, .inr (.inl (fun _ => 0)))), (q3817, .inl (cyJ, 4, .inr (.inl (fun _ => 0)))), (q3818, .inr (0, [.null, .null, .null, .int 0]))] := hD
  refine W.widen (k := 4) (n := 22) (by omega) (by omega) ?_
  refine lv_dup hx hb dX1_init_31 rfl ?_
  refine gf_v (wr := [(q3796, .inr (1, [.ref q3815, .ref q3816, .ref q3817, .null, .int 0, .int 0, .int 0, .int 0, .int 0, .int 0, .int 0])), (q3815, .inl (cyI, 6, .inl (fun _ => 0))), (q3816, .inl (cyJ, 8, .inr (.inl (fun _ => 0)))), (q3817, .inl (cyJ, 4, .inr (.inl (fun _ => 0))))]) (va_runIN (As := []) (rest := [.ref q3818, .ref q3796]) hfix (k_X0_init_v2 l dC dI cyB cyI cyJ cyZ cyO q3818 _) ⟨va_cnB 0 hts (gi_I (sb_c sb_l) gd_k_X0_init_v2) rfl rfl rfl hKN.2.1 (hts _ (ow_m (k := 10) rfl)) (by decide +kernel) ⟨Nat.le_of_ble_eq_true rfl, Nat.le_of_ble_eq_true rfl⟩, rfl, (hts _ (ow_m (k := 11) rfl))⟩ (g_preS hKN hP hD [4] rfl (by decide)) rfl rfl hl.1 rfl (lv_room (Nat.le_of_ble_eq_true rfl)) dX1_init_32 ⟨Nat.le_of_ble_eq_true rfl, Nat.le_of_ble_eq_true rfl⟩) hP hD hS hA [4] [0, 1, 2, 3] rfl rfl (by decide) (by decide) (fun u3826 H locs qu3826 hP hD hS => ?_)
  have hP : va_P (dC, dI) vwCl [(q3796, .inr (1, [.ref q3815, .ref q3816, .ref q3817, .null, .int 0, .int 0, .int 0, .int 0, .int 0, .int 0, .int 0])), (q3815, .inl (cyI, 6, .inl (fun _ => 0))), (q3816, .inl (cyJ, 8, .inr (.inl (fun _ => 0)))), (q3817, .inl (cyJ, 4, .inr (.inl (fun _ => 0)))), (q3818, .inr (0, [.ref (u3826 0), .ref (u3826 1), .ref (u3826 2), .int 0])), (u3826 0, .inl (cyI, 270, .inl (fun _ => 0))), (u3826 1, .inl (cyI, 31, .inl (fun _ => 0))), (u3826 2, .inl (cyI, 6, .inl (fun _ => 0)))] H := hP
  have hD : va_D A [(q3796, .inr (1, [.ref q3815, .ref q3816, .ref q3817, .null, .int 0, .int 0, .int 0, .int 0, .int 0, .int 0, .int 0])), (q3815, .inl (cyI, 6, .inl (fun _ => 0))), (q3816, .inl (cyJ, 8, .inr (.inl (fun _ => 0)))), (q3817, .inl (cyJ, 4, .inr (.inl (fun _ => 0)))), (q3818, .inr (0, [.ref (u3826 0), .ref (u3826 1), .ref (u3826 2), .int 0])), (u3826 0, .inl (cyI, 270, .inl (fun _ => 0))), (u3826 1, .inl (cyI, 31, .inl (fun _ => 0))), (u3826 2, .inl (cyI, 6, .inl (fun _ => 0)))] := hD
  refine W.widen (k := 7) (n := 329) (by omega) (by omega) ?_
  refine va_putF (D := (dC, dI)) (ci := 1) (v := .ref q3818) (ty := .object "ReplicaChain$Formula") (C := RX1) (T := TX1) (N := 11) hx hb hts hi1 tyX1 tyX1_ok nmX1 hown hK hP hD hS 0 rfl rfl 3 (by decide) (hts _ (ow_m (k := 12) rfl)) (fun _ h9 => h9) rfl hin rfl (by decide +kernel) rfl rfl (Nat.le_of_ble_eq_true rfl) dX1_init_35 (fun H locs hP hD hS => ?_)
  have hP : va_P (dC, dI) vwCl [(q3796, .inr (1, [.ref q3815, .ref q3816, .ref q3817, .ref q3818, .int 0, .int 0, .int 0, .int 0, .int 0, .int 0, .int 0])), (q3815, .inl (cyI, 6, .inl (fun _ => 0))), (q3816, .inl (cyJ, 8, .inr (.inl (fun _ => 0)))), (q3817, .inl (cyJ, 4, .inr (.inl (fun _ => 0)))), (q3818, .inr (0, [.ref (u3826 0), .ref (u3826 1), .ref (u3826 2), .int 0])), (u3826 0, .inl (cyI, 270, .inl (fun _ => 0))), (u3826 1, .inl (cyI, 31, .inl (fun _ => 0))), (u3826 2, .inl (cyI, 6, .inl (fun _ => 0)))] H := hP
  have hD : va_D A [(q3796, .inr (1, [.ref q3815, .ref q3816, .ref q3817, .ref q3818, .int 0, .int 0, .int 0, .int 0, .int 0, .int 0, .int 0])), (q3815, .inl (cyI, 6, .inl (fun _ => 0))), (q3816, .inl (cyJ, 8, .inr (.inl (fun _ => 0)))), (q3817, .inl (cyJ, 4, .inr (.inl (fun _ => 0)))), (q3818, .inr (0, [.ref (u3826 0), .ref (u3826 1), .ref (u3826 2), .int 0])), (u3826 0, .inl (cyI, 270, .inl (fun _ => 0))), (u3826 1, .inl (cyI, 31, .inl (fun _ => 0))), (u3826 2, .inl (cyI, 6, .inl (fun _ => 0)))] := hD
  refine lv_aload_n hx hb dX1_init_38 rfl (lv_at hl 0 rfl) ?_
  refine gf_v (wr := [(q3815, .inl (cyI, 6, .inl (fun _ => 0))), (q3816, .inl (cyJ, 8, .inr (.inl (fun _ => 0)))), (q3817, .inl (cyJ, 4, .inr (.inl (fun _ => 0)))), (u3826 0, .inl (cyI, 270, .inl (fun _ => 0))), (u3826 1, .inl (cyI, 31, .inl (fun _ => 0))), (u3826 2, .inl (cyI, 6, .inl (fun _ => 0)))]) (va_runV (As := []) (rest := []) hfix (k_X1_clear_v3 l dC dI cyB cyI cyJ cyZ cyO q3796 q3815 q3816 q3817 q3818 u3826 _) (cwV 0 hts (gi_V (ow_m (k := 13) rfl) (ow_m (k := 14) rfl) (ow_m (k := 15) rfl) (ow_m (k := 16) rfl) (sb_c (sb_r sb_l)) gd_k_X1_clear_v3) rfl rfl rfl (by decide +kernel) ⟨Nat.le_of_ble_eq_true rfl, Nat.le_of_ble_eq_true rfl⟩) (g_preV hKN hP hD [0, 4] rfl (by decide) 0 1 rfl rfl) rfl rfl hl.1 rfl (lv_room (Nat.le_of_ble_eq_true rfl)) dX1_init_39 ⟨Nat.le_of_ble_eq_true rfl, Nat.le_of_ble_eq_true rfl⟩) hP hD hS hA [0, 4] [1, 2, 3, 5, 6, 7] rfl rfl (by decide) (by decide) (fun u3832 H locs qu3832 hP hD hS => ?_)
  have hP : va_P (dC, dI) vwCl [(q3815, .inl (cyI, 6, .inl (fun _ => 0))), (q3816, .inl (cyJ, 8, .inr (.inl (fun _ => 0)))), (q3817, .inl (cyJ, 4, .inr (.inl (fun _ => 0)))), (u3826 0, .inl (cyI, 270, .inl (fun _ => 0))), (u3826 1, .inl (cyI, 31, .inl (fun _ => 0))), (u3826 2, .inl (cyI, 6, .inl (fun _ => 0))), (q3796, .inr (1, [.ref q3815, .ref q3816, .ref q3817, .ref q3818, .int 0, .int 0, .int 0, .int 0, .int 2, .int 0, .int 0])), (q3818, .inr (0, [.ref (u3826 0), .ref (u3826 1), .ref (u3826 2), .int 0]))] H := hP
  have hD : va_D A [(q3815, .inl (cyI, 6, .inl (fun _ => 0))), (q3816, .inl (cyJ, 8, .inr (.inl (fun _ => 0)))), (q3817, .inl (cyJ, 4, .inr (.inl (fun _ => 0)))), (u3826 0, .inl (cyI, 270, .inl (fun _ => 0))), (u3826 1, .inl (cyI, 31, .inl (fun _ => 0))), (u3826 2, .inl (cyI, 6, .inl (fun _ => 0))), (q3796, .inr (1, [.ref q3815, .ref q3816, .ref q3817, .ref q3818, .int 0, .int 0, .int 0, .int 0, .int 2, .int 0, .int 0])), (q3818, .inr (0, [.ref (u3826 0), .ref (u3826 1), .ref (u3826 2), .int 0]))] := hD
  exact W.vret hx hb hr (fun t ht hW => ⟨⟨(fun k => match k with | 0 => q3815 | 1 => q3816 | 2 => q3817 | 3 => u3826 0 | 4 => u3826 1 | 5 => u3826 2 | _ => q3818), rfl, trivial, cE.of ht hP hD [6, 0, 1, 2, 3, 4, 5, 7] (by decide) rfl⟩, hS.F ht⟩) hS.2.2 dX1_init_42
def wo_k_X0_init_v3 : List Cond := [.methodLink RX0 3 objectInit, .instanceMethod objectInit, .code objectInit ⟨#[0xb1]⟩ 1 none, .arrayClass .int, .fieldLink RX0 11 "ReplicaChain$Formula" "steps" "[I", .fieldLink RX0 15 "ReplicaChain$Formula" "stack" "[I", .fieldLink RX0 18 "ReplicaChain$Formula" "facts" "[I"]
def wq_k_X0_init_v3 : List Cond := .code yX0_init cX0_init 1 none :: (wo_k_X0_init_v3 ++ (wsX00 ++ []))
theorem gd_k_X0_init_v3 : Gd wq_k_X0_init_v3 := gd_c (gd_a (gd_o (by decide +kernel)) (gd_a gd_u gd_0))
abbrev wc_k_X0_init_v3 (cyB cyI cyJ cyZ cyO : ClassId) (q3839 : Nat) : va_W := [(q3839, .inr (0, [.null, .null, .null, .int 0]))]
set_option maxHeartbeats 4000000 in
set_option maxRecDepth 100000 in
theorem k_X0_init_v3 (l : Launch) (dC : Nat → ClassId) (dI : Nat → Nat → Nat) (cyB cyI cyJ cyZ cyO : ClassId) (q3839 : Nat) (sz : Nat) : Met l yX0_init wq_k_X0_init_v3 ({ frames := 1, cells := 3, slots := 307, locals := 20 }) (va_Pc [.ref q3839] (cB (dC, dI) (kT cyB cyI cyJ cyZ cyO) (wc_k_X0_init_v3 cyB cyI cyJ cyZ cyO q3839) sz)) (va_Qv (fun _ => True) (fun (u : Nat → Nat) t => cE (dC, dI) (va_A (wc_k_X0_init_v3 cyB cyI cyJ cyZ cyO q3839) sz) ([(q3839, .inr (0, [.ref (u 0), .ref (u 1), .ref (u 2), .int 0])), (u 0, .inl (cyI, 270, .inl (fun _ => 0))), (u 1, .inl (cyI, 31, .inl (fun _ => 0))), (u 2, .inl (cyI, 6, .inl (fun _ => 0)))]) t.heap) (va_A (wc_k_X0_init_v3 cyB cyI cyJ cyZ cyO q3839) sz)) 3 307 (va_A (wc_k_X0_init_v3 cyB cyI cyJ cyZ cyO q3839) sz) := by
  refine Met.ofW (cc := cX0_init) (maxL := 1) (ret := none) (by decide) rfl ?_
  intro p e s m args below meth c s₁ B hml hv
  obtain ⟨rfl, hsz, hP, hKN, hD0⟩ := hv
  have hx := B.exec
  have hb := B.bytes
  have hr := B.returns
  have hts := atoms_spec (ws := wq_k_X0_init_v3) B.pre
  have hown : s.vm.findClass RX0 = some m.cls := findClass_of_methodNamed B.named
  have hlocks := B.notSynchronized
  have hin : meth.name = "<init>" := (name_of_methodNamed B.named B.method).1
  have hK := hKN.1
  have hfix : CallFix p m c cX0_init 1 s [.ref q3839].toArray wq_k_X0_init_v3 RX0 := ⟨hx, hb, hml, hown, hts⟩
  have hi0 : ∀ w ∈ wsX00, w ∈ wq_k_X0_init_v3 := (sb_c sb_l)
  subst hsz
  have hD := hD0.self (sz := s.heap.size)
  generalize hAe : va_A (wc_k_X0_init_v3 cyB cyI cyJ cyZ cyO q3839) s.heap.size = A at hD ⊢
  have hA : ∀ q : Nat, s.heap.size ≤ q → A q := fun q h => by rw [← hAe]; exact Or.inr h
  have hS : va_S A s.heap s.heap [] := va_S.rf
  have hl := lv_entry ([.ref q3839]) (n := 1) (Nat.le_of_ble_eq_true rfl)
  rw [lg_entry_eq]
  generalize (lg_sl ([.ref q3839]) ++ List.replicate (1 - (lg_sl ([.ref q3839])).length) Slot.unset).toArray = ls at hl ⊢
  have hl : lv_has ls 1 [(0, .ref q3839)] := hl
  refine lv_aload_n hx hb dX0_init_0 rfl (lv_at hl 0 rfl) ?_
  refine W.objInit hx hb hown (hts _ (ow_m (k := 0) rfl)) (hts _ (ow_m (k := 1) rfl)) (hts _ (ow_m (k := 2) rfl)) rfl (by rw [hml]; exact hl.1) rfl dX0_init_1 (Nat.le_of_ble_eq_true rfl) (Nat.le_of_ble_eq_true rfl) ?_
  refine W.eq (g2 := F0 m 4 ls []) rfl ?_
  refine lv_aload_n hx hb dX0_init_4 rfl (lv_at hl 0 rfl) ?_
  refine lv_sipush (v := 270) hx hb dX0_init_5 (by decide) ?_
  refine g_newa (a0 := (270, .inl (fun _ => 0))) hx hb (hts _ (ow_m (k := 3) rfl)) rfl hKN hP hD hS hA 1 rfl rfl (fun _ => rfl) (by decide) (by decide) (by decide) (Nat.le_of_ble_eq_true rfl) (Nat.le_of_ble_eq_true rfl) dX0_init_8 (fun q3843 H hP hD hS => ?_)
  have hP : va_P (dC, dI) vwCl [(q3839, .inr (0, [.null, .null, .null, .int 0])), (q3843, .inl (cyI, 270, .inl (fun _ => 0)))] H := hP
  have hD : va_D A [(q3839, .inr (0, [.null, .null, .null, .int 0])), (q3843, .inl (cyI, 270, .inl (fun _ => 0)))] := hD
  refine W.widen (k := 1) (n := 270) (by omega) (by omega) ?_
  refine va_putF (D := (dC, dI)) (ci := 0) (v := .ref q3843) (ty := .array .int) (C := RX0) (T := TX0) (N := 4) hx hb hts hi0 tyX0 tyX0_ok nmX0 hown hK hP hD hS 0 rfl rfl 0 (by decide) (hts _ (ow_m (k := 4) rfl)) (fun _ h9 => h9) rfl hin rfl (by decide +kernel) rfl rfl (Nat.le_of_ble_eq_true rfl) dX0_init_10 (fun H locs hP hD hS => ?_)
  have hP : va_P (dC, dI) vwCl [(q3839, .inr (0, [.ref q3843, .null, .null, .int 0])), (q3843, .inl (cyI, 270, .inl (fun _ => 0)))] H := hP
  have hD : va_D A [(q3839, .inr (0, [.ref q3843, .null, .null, .int 0])), (q3843, .inl (cyI, 270, .inl (fun _ => 0)))] := hD
  refine lv_aload_n hx hb dX0_init_13 rfl (lv_at hl 0 rfl) ?_
  refine lv_bipush (v := 31) hx hb dX0_init_14 (by decide) ?_
  refine g_newa (a0 := (31, .inl (fun _ => 0))) hx hb (hts _ (ow_m (k := 3) rfl)) rfl hKN hP hD hS hA 1 rfl rfl (fun _ => rfl) (by decide) (by decide) (by decide) (Nat.le_of_ble_eq_true rfl) (Nat.le_of_ble_eq_true rfl) dX0_init_16 (fun q3844 H hP hD hS => ?_)
  have hP : va_P (dC, dI) vwCl [(q3839, .inr (0, [.ref q3843, .null, .null, .int 0])), (q3843, .inl (cyI, 270, .inl (fun _ => 0))), (q3844, .inl (cyI, 31, .inl (fun _ => 0)))] H := hP
  have hD : va_D A [(q3839, .inr (0, [.ref q3843, .null, .null, .int 0])), (q3843, .inl (cyI, 270, .inl (fun _ => 0))), (q3844, .inl (cyI, 31, .inl (fun _ => 0)))] := hD
  refine W.widen (k := 2) (n := 301) (by omega) (by omega) ?_
  refine va_putF (D := (dC, dI)) (ci := 0) (v := .ref q3844) (ty := .array .int) (C := RX0) (T := TX0) (N := 4) hx hb hts hi0 tyX0 tyX0_ok nmX0 hown hK hP hD hS 0 rfl rfl 1 (by decide) (hts _ (ow_m (k := 5) rfl)) (fun _ h9 => h9) rfl hin rfl (by decide +kernel) rfl rfl (Nat.le_of_ble_eq_true rfl) dX0_init_18 (fun H locs hP hD hS => ?_)
  have hP : va_P (dC, dI) vwCl [(q3839, .inr (0, [.ref q3843, .ref q3844, .null, .int 0])), (q3843, .inl (cyI, 270, .inl (fun _ => 0))), (q3844, .inl (cyI, 31, .inl (fun _ => 0)))] H := hP
  have hD : va_D A [(q3839, .inr (0, [.ref q3843, .ref q3844, .null, .int 0])), (q3843, .inl (cyI, 270, .inl (fun _ => 0))), (q3844, .inl (cyI, 31, .inl (fun _ => 0)))] := hD
  refine lv_aload_n hx hb dX0_init_21 rfl (lv_at hl 0 rfl) ?_
  refine lv_bipush (v := 6) hx hb dX0_init_22 (by decide) ?_
  refine g_newa (a0 := (6, .inl (fun _ => 0))) hx hb (hts _ (ow_m (k := 3) rfl)) rfl hKN hP hD hS hA 1 rfl rfl (fun _ => rfl) (by decide) (by decide) (by decide) (Nat.le_of_ble_eq_true rfl) (Nat.le_of_ble_eq_true rfl) dX0_init_24 (fun q3845 H hP hD hS => ?_)
  have hP : va_P (dC, dI) vwCl [(q3839, .inr (0, [.ref q3843, .ref q3844, .null, .int 0])), (q3843, .inl (cyI, 270, .inl (fun _ => 0))), (q3844, .inl (cyI, 31, .inl (fun _ => 0))), (q3845, .inl (cyI, 6, .inl (fun _ => 0)))] H := hP
  have hD : va_D A [(q3839, .inr (0, [.ref q3843, .ref q3844, .null, .int 0])), (q3843, .inl (cyI, 270, .inl (fun _ => 0))), (q3844, .inl (cyI, 31, .inl (fun _ => 0))), (q3845, .inl (cyI, 6, .inl (fun _ => 0)))] := hD
  refine W.widen (k := 3) (n := 307) (by omega) (by omega) ?_
  refine va_putF (D := (dC, dI)) (ci := 0) (v := .ref q3845) (ty := .array .int) (C := RX0) (T := TX0) (N := 4) hx hb hts hi0 tyX0 tyX0_ok nmX0 hown hK hP hD hS 0 rfl rfl 2 (by decide) (hts _ (ow_m (k := 6) rfl)) (fun _ h9 => h9) rfl hin rfl (by decide +kernel) rfl rfl (Nat.le_of_ble_eq_true rfl) dX0_init_26 (fun H locs hP hD hS => ?_)
  have hP : va_P (dC, dI) vwCl [(q3839, .inr (0, [.ref q3843, .ref q3844, .ref q3845, .int 0])), (q3843, .inl (cyI, 270, .inl (fun _ => 0))), (q3844, .inl (cyI, 31, .inl (fun _ => 0))), (q3845, .inl (cyI, 6, .inl (fun _ => 0)))] H := hP
  have hD : va_D A [(q3839, .inr (0, [.ref q3843, .ref q3844, .ref q3845, .int 0])), (q3843, .inl (cyI, 270, .inl (fun _ => 0))), (q3844, .inl (cyI, 31, .inl (fun _ => 0))), (q3845, .inl (cyI, 6, .inl (fun _ => 0)))] := hD
  exact W.vret hx hb hr (fun t ht hW => ⟨⟨(fun k => match k with | 0 => q3843 | 1 => q3844 | _ => q3845), rfl, trivial, cE.of ht hP hD [0, 1, 2, 3] (by decide) rfl⟩, hS.F ht⟩) hS.2.2 dX0_init_29
def wo_k_X0_clear_v4 : List Cond := [.fieldLink RX0 21 "ReplicaChain$Formula" "length" "I"]
def wq_k_X0_clear_v4 : List Cond := .code yX0_clear cX0_clear 1 none :: (wo_k_X0_clear_v4 ++ (wsX00 ++ []))
theorem gd_k_X0_clear_v4 : Gd wq_k_X0_clear_v4 := gd_c (gd_a (gd_o (by decide +kernel)) (gd_a gd_u gd_0))
abbrev wc_k_X0_clear_v4 (cyB cyI cyJ cyZ cyO : ClassId) (q3839 : Nat) (u3847 : Nat → Nat) : va_W := [(q3839, .inr (0, [.ref (u3847 0), .ref (u3847 1), .ref (u3847 2), .int 0]))]
set_option maxHeartbeats 4000000 in
set_option maxRecDepth 100000 in
theorem k_X0_clear_v4 (l : Launch) (dC : Nat → ClassId) (dI : Nat → Nat → Nat) (cyB cyI cyJ cyZ cyO : ClassId) (q3839 : Nat) (u3847 : Nat → Nat) (sz : Nat) : Met l yX0_clear wq_k_X0_clear_v4 ({ frames := 0, cells := 0, slots := 0, locals := 0 }) (va_Pc [.ref q3839] (cB (dC, dI) (kT cyB cyI cyJ cyZ cyO) (wc_k_X0_clear_v4 cyB cyI cyJ cyZ cyO q3839 u3847) sz)) (va_Qv (fun _ => True) (fun (u : Unit) t => cE (dC, dI) (va_A (wc_k_X0_clear_v4 cyB cyI cyJ cyZ cyO q3839 u3847) sz) ([(q3839, .inr (0, [.ref (u3847 0), .ref (u3847 1), .ref (u3847 2), .int 0]))]) t.heap) (va_A (wc_k_X0_clear_v4 cyB cyI cyJ cyZ cyO q3839 u3847) sz)) 0 0 (va_A (wc_k_X0_clear_v4 cyB cyI cyJ cyZ cyO q3839 u3847) sz) := by
  refine Met.ofW (cc := cX0_clear) (maxL := 1) (ret := none) (by decide) rfl ?_
  intro p e s m args below meth c s₁ B hml hv
  obtain ⟨rfl, hsz, hP, hKN, hD0⟩ := hv
  have hx := B.exec
  have hb := B.bytes
  have hr := B.returns
  have hts := atoms_spec (ws := wq_k_X0_clear_v4) B.pre
  have hown : s.vm.findClass RX0 = some m.cls := findClass_of_methodNamed B.named
  have hlocks := B.notSynchronized
  have hK := hKN.1
  have hfix : CallFix p m c cX0_clear 1 s [.ref q3839].toArray wq_k_X0_clear_v4 RX0 := ⟨hx, hb, hml, hown, hts⟩
  have hi0 : ∀ w ∈ wsX00, w ∈ wq_k_X0_clear_v4 := (sb_c sb_l)
  subst hsz
  have hD := hD0.self (sz := s.heap.size)
  generalize hAe : va_A (wc_k_X0_clear_v4 cyB cyI cyJ cyZ cyO q3839 u3847) s.heap.size = A at hD ⊢
  have hA : ∀ q : Nat, s.heap.size ≤ q → A q := fun q h => by rw [← hAe]; exact Or.inr h
  have hS : va_S A s.heap s.heap [] := va_S.rf
  have hl := lv_entry ([.ref q3839]) (n := 1) (Nat.le_of_ble_eq_true rfl)
  rw [lg_entry_eq]
  generalize (lg_sl ([.ref q3839]) ++ List.replicate (1 - (lg_sl ([.ref q3839])).length) Slot.unset).toArray = ls at hl ⊢
  have hl : lv_has ls 1 [(0, .ref q3839)] := hl
  refine lv_aload_n hx hb dX0_clear_0 rfl (lv_at hl 0 rfl) ?_
  refine lv_iconst (v := 0) hx hb dX0_clear_1 (by decide) ?_
  refine va_put (D := (dC, dI)) (ci := 0) (v := .int 0) (ty := .int) (C := RX0) (T := TX0) (N := 4) hx hb hts hi0 tyX0 tyX0_ok nmX0 hown hK hP hD hS 0 rfl rfl 3 (by decide) (hts _ (ow_m (k := 0) rfl)) (fun _ h9 => h9) rfl (by decide +kernel) rfl rfl (Nat.le_of_ble_eq_true rfl) dX0_clear_2 (fun H locs hP hD hS => ?_)
  have hP : va_P (dC, dI) vwCl [(q3839, .inr (0, [.ref (u3847 0), .ref (u3847 1), .ref (u3847 2), .int 0]))] H := hP
  have hD : va_D A [(q3839, .inr (0, [.ref (u3847 0), .ref (u3847 1), .ref (u3847 2), .int 0]))] := hD
  exact W.vret hx hb hr (fun t ht hW => ⟨⟨(), rfl, trivial, cE.of ht hP hD [0] (by decide) rfl⟩, hS.F ht⟩) hS.2.2 dX0_clear_5
def wo_k_X1_clear_v4 : List Cond := [.fieldLink RX1 25 "ReplicaChain$Plan" "slow" "LReplicaChain$Formula;", .methodLink RX1 32 yX0_clear, .instanceMethod yX0_clear, .selects RX0 yX0_clear yX0_clear, .initialized RX0, .fieldLink RX1 33 "ReplicaChain$Plan" "memberCount" "I", .fieldLink RX1 37 "ReplicaChain$Plan" "nodeCount" "I", .fieldLink RX1 40 "ReplicaChain$Plan" "keyCount" "I", .fieldLink RX1 43 "ReplicaChain$Plan" "units" "I", .fieldLink RX1 46 "ReplicaChain$Plan" "copy" "I", .fieldLink RX1 49 "ReplicaChain$Plan" "loss" "I", .fieldLink RX1 52 "ReplicaChain$Plan" "draw" "I"]
def wq_k_X1_clear_v4 : List Cond := .code yX1_clear cX1_clear 1 none :: (wo_k_X1_clear_v4 ++ (wq_k_X0_clear_v4 ++ (wsX10 ++ [])))
theorem gd_k_X1_clear_v4 : Gd wq_k_X1_clear_v4 := gd_c (gd_a (gd_o (by decide +kernel)) (gd_a gd_k_X0_clear_v4 (gd_a gd_u gd_0)))
abbrev wc_k_X1_clear_v4 (cyB cyI cyJ cyZ cyO : ClassId) (q3835 : Nat) (q3836 : Nat) (q3837 : Nat) (q3838 : Nat) (q3839 : Nat) (u3847 : Nat → Nat) : va_W := [(q3835, .inr (1, [.ref q3836, .ref q3837, .ref q3838, .ref q3839, .int 0, .int 0, .int 0, .int 0, .int 0, .int 0, .int 0])), (q3839, .inr (0, [.ref (u3847 0), .ref (u3847 1), .ref (u3847 2), .int 0]))]
set_option maxHeartbeats 4000000 in
set_option maxRecDepth 100000 in
theorem k_X1_clear_v4 (l : Launch) (dC : Nat → ClassId) (dI : Nat → Nat → Nat) (cyB cyI cyJ cyZ cyO : ClassId) (q3835 : Nat) (q3836 : Nat) (q3837 : Nat) (q3838 : Nat) (q3839 : Nat) (u3847 : Nat → Nat) (sz : Nat) : Met l yX1_clear wq_k_X1_clear_v4 ({ frames := 1, cells := 0, slots := 0, locals := 20 }) (va_Pc [.ref q3835] (cB (dC, dI) (kT cyB cyI cyJ cyZ cyO) (wc_k_X1_clear_v4 cyB cyI cyJ cyZ cyO q3835 q3836 q3837 q3838 q3839 u3847) sz)) (va_Qv (fun _ => True) (fun (u : Unit) t => cE (dC, dI) (va_A (wc_k_X1_clear_v4 cyB cyI cyJ cyZ cyO q3835 q3836 q3837 q3838 q3839 u3847) sz) ([(q3835, .inr (1, [.ref q3836, .ref q3837, .ref q3838, .ref q3839, .int 0, .int 0, .int 0, .int 0, .int 2, .int 0, .int 0])), (q3839, .inr (0, [.ref (u3847 0), .ref (u3847 1), .ref (u3847 2), .int 0]))]) t.heap) (va_A (wc_k_X1_clear_v4 cyB cyI cyJ cyZ cyO q3835 q3836 q3837 q3838 q3839 u3847) sz)) 0 0 (va_A (wc_k_X1_clear_v4 cyB cyI cyJ cyZ cyO q3835 q3836 q3837 q3838 q3839 u3847) sz) := by
  refine Met.ofW (cc := cX1_clear) (maxL := 1) (ret := none) (by decide) rfl ?_
  intro p e s m args below meth c s₁ B hml hv
  obtain ⟨rfl, hsz, hP, hKN, hD0⟩ := hv
  have hx := B.exec
  have hb := B.bytes
  have hr := B.returns
  have hts := atoms_spec (ws := wq_k_X1_clear_v4) B.pre
  have hown : s.vm.findClass RX1 = some m.cls := findClass_of_methodNamed B.named
  have hlocks := B.notSynchronized
  have hK := hKN.1
  have hfix : CallFix p m c cX1_clear 1 s [.ref q3835].toArray wq_k_X1_clear_v4 RX1 := ⟨hx, hb, hml, hown, hts⟩
  have hi1 : ∀ w ∈ wsX10, w ∈ wq_k_X1_clear_v4 := (sb_c (sb_r sb_l))
  subst hsz
  have hD := hD0.self (sz := s.heap.size)
  generalize hAe : va_A (wc_k_X1_clear_v4 cyB cyI cyJ cyZ cyO q3835 q3836 q3837 q3838 q3839 u3847) s.heap.size = A at hD ⊢
  have hA : ∀ q : Nat, s.heap.size ≤ q → A q := fun q h => by rw [← hAe]; exact Or.inr h
  have hS : va_S A s.heap s.heap [] := va_S.rf
  have hl := lv_entry ([.ref q3835]) (n := 1) (Nat.le_of_ble_eq_true rfl)
  rw [lg_entry_eq]
  generalize (lg_sl ([.ref q3835]) ++ List.replicate (1 - (lg_sl ([.ref q3835])).length) Slot.unset).toArray = ls at hl ⊢
  have hl : lv_has ls 1 [(0, .ref q3835)] := hl
  refine lv_aload_n hx hb dX1_clear_0 rfl (lv_at hl 0 rfl) ?_
  refine va_get (D := (dC, dI)) (ci := 1) (v := .ref q3839) (C := RX1) (T := TX1) (N := 11) hx hb hts hi1 hown hK hP 0 rfl rfl 3 (by decide) (hts _ (ow_m (k := 0) rfl)) (fun _ h9 => h9) rfl dX1_clear_1 ?_
  refine gf_v (wr := [(q3835, .inr (1, [.ref q3836, .ref q3837, .ref q3838, .ref q3839, .int 0, .int 0, .int 0, .int 0, .int 0, .int 0, .int 0]))]) (va_runV (As := []) (rest := []) hfix (k_X0_clear_v4 l dC dI cyB cyI cyJ cyZ cyO q3839 u3847 _) (cwV 0 hts (gi_V (ow_m (k := 1) rfl) (ow_m (k := 2) rfl) (ow_m (k := 3) rfl) (ow_m (k := 4) rfl) (sb_c sb_l) gd_k_X0_clear_v4) rfl rfl rfl (by decide +kernel) ⟨Nat.le_of_ble_eq_true rfl, Nat.le_of_ble_eq_true rfl⟩) (g_preV hKN hP hD [1] rfl (by decide) 0 0 rfl rfl) rfl rfl hl.1 rfl (lv_room (Nat.le_of_ble_eq_true rfl)) dX1_clear_4 ⟨Nat.le_of_ble_eq_true rfl, Nat.le_of_ble_eq_true rfl⟩) hP hD hS hA [1] [0] rfl rfl (by decide) (by decide) (fun u3851 H locs qu3851 hP hD hS => ?_)
  have hP : va_P (dC, dI) vwCl [(q3835, .inr (1, [.ref q3836, .ref q3837, .ref q3838, .ref q3839, .int 0, .int 0, .int 0, .int 0, .int 0, .int 0, .int 0])), (q3839, .inr (0, [.ref (u3847 0), .ref (u3847 1), .ref (u3847 2), .int 0]))] H := hP
  have hD : va_D A [(q3835, .inr (1, [.ref q3836, .ref q3837, .ref q3838, .ref q3839, .int 0, .int 0, .int 0, .int 0, .int 0, .int 0, .int 0])), (q3839, .inr (0, [.ref (u3847 0), .ref (u3847 1), .ref (u3847 2), .int 0]))] := hD
  refine lv_aload_n hx hb dX1_clear_7 rfl (lv_at hl 0 rfl) ?_
  refine lv_iconst (v := 0) hx hb dX1_clear_8 (by decide) ?_
  refine va_put (D := (dC, dI)) (ci := 1) (v := .int 0) (ty := .int) (C := RX1) (T := TX1) (N := 11) hx hb hts hi1 tyX1 tyX1_ok nmX1 hown hK hP hD hS 0 rfl rfl 4 (by decide) (hts _ (ow_m (k := 5) rfl)) (fun _ h9 => h9) rfl (by decide +kernel) rfl rfl (Nat.le_of_ble_eq_true rfl) dX1_clear_9 (fun H locs hP hD hS => ?_)
  have hP : va_P (dC, dI) vwCl [(q3835, .inr (1, [.ref q3836, .ref q3837, .ref q3838, .ref q3839, .int 0, .int 0, .int 0, .int 0, .int 0, .int 0, .int 0])), (q3839, .inr (0, [.ref (u3847 0), .ref (u3847 1), .ref (u3847 2), .int 0]))] H := hP
  have hD : va_D A [(q3835, .inr (1, [.ref q3836, .ref q3837, .ref q3838, .ref q3839, .int 0, .int 0, .int 0, .int 0, .int 0, .int 0, .int 0])), (q3839, .inr (0, [.ref (u3847 0), .ref (u3847 1), .ref (u3847 2), .int 0]))] := hD
  refine lv_aload_n hx hb dX1_clear_12 rfl (lv_at hl 0 rfl) ?_
  refine lv_iconst (v := 0) hx hb dX1_clear_13 (by decide) ?_
  refine va_put (D := (dC, dI)) (ci := 1) (v := .int 0) (ty := .int) (C := RX1) (T := TX1) (N := 11) hx hb hts hi1 tyX1 tyX1_ok nmX1 hown hK hP hD hS 0 rfl rfl 5 (by decide) (hts _ (ow_m (k := 6) rfl)) (fun _ h9 => h9) rfl (by decide +kernel) rfl rfl (Nat.le_of_ble_eq_true rfl) dX1_clear_14 (fun H locs hP hD hS => ?_)
  have hP : va_P (dC, dI) vwCl [(q3835, .inr (1, [.ref q3836, .ref q3837, .ref q3838, .ref q3839, .int 0, .int 0, .int 0, .int 0, .int 0, .int 0, .int 0])), (q3839, .inr (0, [.ref (u3847 0), .ref (u3847 1), .ref (u3847 2), .int 0]))] H := hP
  have hD : va_D A [(q3835, .inr (1, [.ref q3836, .ref q3837, .ref q3838, .ref q3839, .int 0, .int 0, .int 0, .int 0, .int 0, .int 0, .int 0])), (q3839, .inr (0, [.ref (u3847 0), .ref (u3847 1), .ref (u3847 2), .int 0]))] := hD
  refine lv_aload_n hx hb dX1_clear_17 rfl (lv_at hl 0 rfl) ?_
  refine lv_iconst (v := 0) hx hb dX1_clear_18 (by decide) ?_
  refine va_put (D := (dC, dI)) (ci := 1) (v := .int 0) (ty := .int) (C := RX1) (T := TX1) (N := 11) hx hb hts hi1 tyX1 tyX1_ok nmX1 hown hK hP hD hS 0 rfl rfl 6 (by decide) (hts _ (ow_m (k := 7) rfl)) (fun _ h9 => h9) rfl (by decide +kernel) rfl rfl (Nat.le_of_ble_eq_true rfl) dX1_clear_19 (fun H locs hP hD hS => ?_)
  have hP : va_P (dC, dI) vwCl [(q3835, .inr (1, [.ref q3836, .ref q3837, .ref q3838, .ref q3839, .int 0, .int 0, .int 0, .int 0, .int 0, .int 0, .int 0])), (q3839, .inr (0, [.ref (u3847 0), .ref (u3847 1), .ref (u3847 2), .int 0]))] H := hP
  have hD : va_D A [(q3835, .inr (1, [.ref q3836, .ref q3837, .ref q3838, .ref q3839, .int 0, .int 0, .int 0, .int 0, .int 0, .int 0, .int 0])), (q3839, .inr (0, [.ref (u3847 0), .ref (u3847 1), .ref (u3847 2), .int 0]))] := hD
  refine lv_aload_n hx hb dX1_clear_22 rfl (lv_at hl 0 rfl) ?_
  refine lv_iconst (v := 0) hx hb dX1_clear_23 (by decide) ?_
  refine va_put (D := (dC, dI)) (ci := 1) (v := .int 0) (ty := .int) (C := RX1) (T := TX1) (N := 11) hx hb hts hi1 tyX1 tyX1_ok nmX1 hown hK hP hD hS 0 rfl rfl 7 (by decide) (hts _ (ow_m (k := 8) rfl)) (fun _ h9 => h9) rfl (by decide +kernel) rfl rfl (Nat.le_of_ble_eq_true rfl) dX1_clear_24 (fun H locs hP hD hS => ?_)
  have hP : va_P (dC, dI) vwCl [(q3835, .inr (1, [.ref q3836, .ref q3837, .ref q3838, .ref q3839, .int 0, .int 0, .int 0, .int 0, .int 0, .int 0, .int 0])), (q3839, .inr (0, [.ref (u3847 0), .ref (u3847 1), .ref (u3847 2), .int 0]))] H := hP
  have hD : va_D A [(q3835, .inr (1, [.ref q3836, .ref q3837, .ref q3838, .ref q3839, .int 0, .int 0, .int 0, .int 0, .int 0, .int 0, .int 0])), (q3839, .inr (0, [.ref (u3847 0), .ref (u3847 1), .ref (u3847 2), .int 0]))] := hD
  refine lv_aload_n hx hb dX1_clear_27 rfl (lv_at hl 0 rfl) ?_
  refine lv_iconst (v := 2) hx hb dX1_clear_28 (by decide) ?_
  refine va_put (D := (dC, dI)) (ci := 1) (v := .int 2) (ty := .int) (C := RX1) (T := TX1) (N := 11) hx hb hts hi1 tyX1 tyX1_ok nmX1 hown hK hP hD hS 0 rfl rfl 8 (by decide) (hts _ (ow_m (k := 9) rfl)) (fun _ h9 => h9) rfl (by decide +kernel) rfl rfl (Nat.le_of_ble_eq_true rfl) dX1_clear_29 (fun H locs hP hD hS => ?_)
  have hP : va_P (dC, dI) vwCl [(q3835, .inr (1, [.ref q3836, .ref q3837, .ref q3838, .ref q3839, .int 0, .int 0, .int 0, .int 0, .int 2, .int 0, .int 0])), (q3839, .inr (0, [.ref (u3847 0), .ref (u3847 1), .ref (u3847 2), .int 0]))] H := hP
  have hD : va_D A [(q3835, .inr (1, [.ref q3836, .ref q3837, .ref q3838, .ref q3839, .int 0, .int 0, .int 0, .int 0, .int 2, .int 0, .int 0])), (q3839, .inr (0, [.ref (u3847 0), .ref (u3847 1), .ref (u3847 2), .int 0]))] := hD
  refine lv_aload_n hx hb dX1_clear_32 rfl (lv_at hl 0 rfl) ?_
  refine lv_iconst (v := 0) hx hb dX1_clear_33 (by decide) ?_
  refine va_put (D := (dC, dI)) (ci := 1) (v := .int 0) (ty := .int) (C := RX1) (T := TX1) (N := 11) hx hb hts hi1 tyX1 tyX1_ok nmX1 hown hK hP hD hS 0 rfl rfl 9 (by decide) (hts _ (ow_m (k := 10) rfl)) (fun _ h9 => h9) rfl (by decide +kernel) rfl rfl (Nat.le_of_ble_eq_true rfl) dX1_clear_34 (fun H locs hP hD hS => ?_)
  have hP : va_P (dC, dI) vwCl [(q3835, .inr (1, [.ref q3836, .ref q3837, .ref q3838, .ref q3839, .int 0, .int 0, .int 0, .int 0, .int 2, .int 0, .int 0])), (q3839, .inr (0, [.ref (u3847 0), .ref (u3847 1), .ref (u3847 2), .int 0]))] H := hP
  have hD : va_D A [(q3835, .inr (1, [.ref q3836, .ref q3837, .ref q3838, .ref q3839, .int 0, .int 0, .int 0, .int 0, .int 2, .int 0, .int 0])), (q3839, .inr (0, [.ref (u3847 0), .ref (u3847 1), .ref (u3847 2), .int 0]))] := hD
  refine lv_aload_n hx hb dX1_clear_37 rfl (lv_at hl 0 rfl) ?_
  refine lv_iconst (v := 0) hx hb dX1_clear_38 (by decide) ?_
  refine va_put (D := (dC, dI)) (ci := 1) (v := .int 0) (ty := .int) (C := RX1) (T := TX1) (N := 11) hx hb hts hi1 tyX1 tyX1_ok nmX1 hown hK hP hD hS 0 rfl rfl 10 (by decide) (hts _ (ow_m (k := 11) rfl)) (fun _ h9 => h9) rfl (by decide +kernel) rfl rfl (Nat.le_of_ble_eq_true rfl) dX1_clear_39 (fun H locs hP hD hS => ?_)
  have hP : va_P (dC, dI) vwCl [(q3835, .inr (1, [.ref q3836, .ref q3837, .ref q3838, .ref q3839, .int 0, .int 0, .int 0, .int 0, .int 2, .int 0, .int 0])), (q3839, .inr (0, [.ref (u3847 0), .ref (u3847 1), .ref (u3847 2), .int 0]))] H := hP
  have hD : va_D A [(q3835, .inr (1, [.ref q3836, .ref q3837, .ref q3838, .ref q3839, .int 0, .int 0, .int 0, .int 0, .int 2, .int 0, .int 0])), (q3839, .inr (0, [.ref (u3847 0), .ref (u3847 1), .ref (u3847 2), .int 0]))] := hD
  exact W.vret hx hb hr (fun t ht hW => ⟨⟨(), rfl, trivial, cE.of ht hP hD [0, 1] (by decide) rfl⟩, hS.F ht⟩) hS.2.2 dX1_clear_42
def wo_k_X0_init_v4 : List Cond := [.methodLink RX0 3 objectInit, .instanceMethod objectInit, .code objectInit ⟨#[0xb1]⟩ 1 none, .arrayClass .int, .fieldLink RX0 11 "ReplicaChain$Formula" "steps" "[I", .fieldLink RX0 15 "ReplicaChain$Formula" "stack" "[I", .fieldLink RX0 18 "ReplicaChain$Formula" "facts" "[I"]
def wq_k_X0_init_v4 : List Cond := .code yX0_init cX0_init 1 none :: (wo_k_X0_init_v4 ++ (wsX00 ++ []))
theorem gd_k_X0_init_v4 : Gd wq_k_X0_init_v4 := gd_c (gd_a (gd_o (by decide +kernel)) (gd_a gd_u gd_0))
abbrev wc_k_X0_init_v4 (cyB cyI cyJ cyZ cyO : ClassId) (q3857 : Nat) : va_W := [(q3857, .inr (0, [.null, .null, .null, .int 0]))]
set_option maxHeartbeats 4000000 in
set_option maxRecDepth 100000 in
theorem k_X0_init_v4 (l : Launch) (dC : Nat → ClassId) (dI : Nat → Nat → Nat) (cyB cyI cyJ cyZ cyO : ClassId) (q3857 : Nat) (sz : Nat) : Met l yX0_init wq_k_X0_init_v4 ({ frames := 1, cells := 3, slots := 307, locals := 20 }) (va_Pc [.ref q3857] (cB (dC, dI) (kT cyB cyI cyJ cyZ cyO) (wc_k_X0_init_v4 cyB cyI cyJ cyZ cyO q3857) sz)) (va_Qv (fun _ => True) (fun (u : Nat → Nat) t => cE (dC, dI) (va_A (wc_k_X0_init_v4 cyB cyI cyJ cyZ cyO q3857) sz) ([(q3857, .inr (0, [.ref (u 0), .ref (u 1), .ref (u 2), .int 0])), (u 0, .inl (cyI, 270, .inl (fun _ => 0))), (u 1, .inl (cyI, 31, .inl (fun _ => 0))), (u 2, .inl (cyI, 6, .inl (fun _ => 0)))]) t.heap) (va_A (wc_k_X0_init_v4 cyB cyI cyJ cyZ cyO q3857) sz)) 3 307 (va_A (wc_k_X0_init_v4 cyB cyI cyJ cyZ cyO q3857) sz) := by
  refine Met.ofW (cc := cX0_init) (maxL := 1) (ret := none) (by decide) rfl ?_
  intro p e s m args below meth c s₁ B hml hv
  obtain ⟨rfl, hsz, hP, hKN, hD0⟩ := hv
  have hx := B.exec
  have hb := B.bytes
  have hr := B.returns
  have hts := atoms_spec (ws := wq_k_X0_init_v4) B.pre
  have hown : s.vm.findClass RX0 = some m.cls := findClass_of_methodNamed B.named
  have hlocks := B.notSynchronized
  have hin : meth.name = "<init>" := (name_of_methodNamed B.named B.method).1
  have hK := hKN.1
  have hfix : CallFix p m c cX0_init 1 s [.ref q3857].toArray wq_k_X0_init_v4 RX0 := ⟨hx, hb, hml, hown, hts⟩
  have hi0 : ∀ w ∈ wsX00, w ∈ wq_k_X0_init_v4 := (sb_c sb_l)
  subst hsz
  have hD := hD0.self (sz := s.heap.size)
  generalize hAe : va_A (wc_k_X0_init_v4 cyB cyI cyJ cyZ cyO q3857) s.heap.size = A at hD ⊢
  have hA : ∀ q : Nat, s.heap.size ≤ q → A q := fun q h => by rw [← hAe]; exact Or.inr h
  have hS : va_S A s.heap s.heap [] := va_S.rf
  have hl := lv_entry ([.ref q3857]) (n := 1) (Nat.le_of_ble_eq_true rfl)
  rw [lg_entry_eq]
  generalize (lg_sl ([.ref q3857]) ++ List.replicate (1 - (lg_sl ([.ref q3857])).length) Slot.unset).toArray = ls at hl ⊢
  have hl : lv_has ls 1 [(0, .ref q3857)] := hl
  refine lv_aload_n hx hb dX0_init_0 rfl (lv_at hl 0 rfl) ?_
  refine W.objInit hx hb hown (hts _ (ow_m (k := 0) rfl)) (hts _ (ow_m (k := 1) rfl)) (hts _ (ow_m (k := 2) rfl)) rfl (by rw [hml]; exact hl.1) rfl dX0_init_1 (Nat.le_of_ble_eq_true rfl) (Nat.le_of_ble_eq_true rfl) ?_
  refine W.eq (g2 := F0 m 4 ls []) rfl ?_
  refine lv_aload_n hx hb dX0_init_4 rfl (lv_at hl 0 rfl) ?_
  refine lv_sipush (v := 270) hx hb dX0_init_5 (by decide) ?_
  refine g_newa (a0 := (270, .inl (fun _ => 0))) hx hb (hts _ (ow_m (k := 3) rfl)) rfl hKN hP hD hS hA 1 rfl rfl (fun _ => rfl) (by decide) (by decide) (by decide) (Nat.le_of_ble_eq_true rfl) (Nat.le_of_ble_eq_true rfl) dX0_init_8 (fun q3861 H hP hD hS => ?_)
  have hP : va_P (dC, dI) vwCl [(q3857, .inr (0, [.null, .null, .null, .int 0])), (q3861, .inl (cyI, 270, .inl (fun _ => 0)))] H := hP
  have hD : va_D A [(q3857, .inr (0, [.null, .null, .null, .int 0])), (q3861, .inl (cyI, 270, .inl (fun _ => 0)))] := hD
  refine W.widen (k := 1) (n := 270) (by omega) (by omega) ?_
  refine va_putF (D := (dC, dI)) (ci := 0) (v := .ref q3861) (ty := .array .int) (C := RX0) (T := TX0) (N := 4) hx hb hts hi0 tyX0 tyX0_ok nmX0 hown hK hP hD hS 0 rfl rfl 0 (by decide) (hts _ (ow_m (k := 4) rfl)) (fun _ h9 => h9) rfl hin rfl (by decide +kernel) rfl rfl (Nat.le_of_ble_eq_true rfl) dX0_init_10 (fun H locs hP hD hS => ?_)
  have hP : va_P (dC, dI) vwCl [(q3857, .inr (0, [.ref q3861, .null, .null, .int 0])), (q3861, .inl (cyI, 270, .inl (fun _ => 0)))] H := hP
  have hD : va_D A [(q3857, .inr (0, [.ref q3861, .null, .null, .int 0])), (q3861, .inl (cyI, 270, .inl (fun _ => 0)))] := hD
  refine lv_aload_n hx hb dX0_init_13 rfl (lv_at hl 0 rfl) ?_
  refine lv_bipush (v := 31) hx hb dX0_init_14 (by decide) ?_
  refine g_newa (a0 := (31, .inl (fun _ => 0))) hx hb (hts _ (ow_m (k := 3) rfl)) rfl hKN hP hD hS hA 1 rfl rfl (fun _ => rfl) (by decide) (by decide) (by decide) (Nat.le_of_ble_eq_true rfl) (Nat.le_of_ble_eq_true rfl) dX0_init_16 (fun q3862 H hP hD hS => ?_)
  have hP : va_P (dC, dI) vwCl [(q3857, .inr (0, [.ref q3861, .null, .null, .int 0])), (q3861, .inl (cyI, 270, .inl (fun _ => 0))), (q3862, .inl (cyI, 31, .inl (fun _ => 0)))] H := hP
  have hD : va_D A [(q3857, .inr (0, [.ref q3861, .null, .null, .int 0])), (q3861, .inl (cyI, 270, .inl (fun _ => 0))), (q3862, .inl (cyI, 31, .inl (fun _ => 0)))] := hD
  refine W.widen (k := 2) (n := 301) (by omega) (by omega) ?_
  refine va_putF (D := (dC, dI)) (ci := 0) (v := .ref q3862) (ty := .array .int) (C := RX0) (T := TX0) (N := 4) hx hb hts hi0 tyX0 tyX0_ok nmX0 hown hK hP hD hS 0 rfl rfl 1 (by decide) (hts _ (ow_m (k := 5) rfl)) (fun _ h9 => h9) rfl hin rfl (by decide +kernel) rfl rfl (Nat.le_of_ble_eq_true rfl) dX0_init_18 (fun H locs hP hD hS => ?_)
  have hP : va_P (dC, dI) vwCl [(q3857, .inr (0, [.ref q3861, .ref q3862, .null, .int 0])), (q3861, .inl (cyI, 270, .inl (fun _ => 0))), (q3862, .inl (cyI, 31, .inl (fun _ => 0)))] H := hP
  have hD : va_D A [(q3857, .inr (0, [.ref q3861, .ref q3862, .null, .int 0])), (q3861, .inl (cyI, 270, .inl (fun _ => 0))), (q3862, .inl (cyI, 31, .inl (fun _ => 0)))] := hD
  refine lv_aload_n hx hb dX0_init_21 rfl (lv_at hl 0 rfl) ?_
  refine lv_bipush (v := 6) hx hb dX0_init_22 (by decide) ?_
  refine g_newa (a0 := (6, .inl (fun _ => 0))) hx hb (hts _ (ow_m (k := 3) rfl)) rfl hKN hP hD hS hA 1 rfl rfl (fun _ => rfl) (by decide) (by decide) (by decide) (Nat.le_of_ble_eq_true rfl) (Nat.le_of_ble_eq_true rfl) dX0_init_24 (fun q3863 H hP hD hS => ?_)
  have hP : va_P (dC, dI) vwCl [(q3857, .inr (0, [.ref q3861, .ref q3862, .null, .int 0])), (q3861, .inl (cyI, 270, .inl (fun _ => 0))), (q3862, .inl (cyI, 31, .inl (fun _ => 0))), (q3863, .inl (cyI, 6, .inl (fun _ => 0)))] H := hP
  have hD : va_D A [(q3857, .inr (0, [.ref q3861, .ref q3862, .null, .int 0])), (q3861, .inl (cyI, 270, .inl (fun _ => 0))), (q3862, .inl (cyI, 31, .inl (fun _ => 0))), (q3863, .inl (cyI, 6, .inl (fun _ => 0)))] := hD
  refine W.widen (k := 3) (n := 307) (by omega) (by omega) ?_
  refine va_putF (D := (dC, dI)) (ci := 0) (v := .ref q3863) (ty := .array .int) (C := RX0) (T := TX0) (N := 4) hx hb hts hi0 tyX0 tyX0_ok nmX0 hown hK hP hD hS 0 rfl rfl 2 (by decide) (hts _ (ow_m (k := 6) rfl)) (fun _ h9 => h9) rfl hin rfl (by decide +kernel) rfl rfl (Nat.le_of_ble_eq_true rfl) dX0_init_26 (fun H locs hP hD hS => ?_)
  have hP : va_P (dC, dI) vwCl [(q3857, .inr (0, [.ref q3861, .ref q3862, .ref q3863, .int 0])), (q3861, .inl (cyI, 270, .inl (fun _ => 0))), (q3862, .inl (cyI, 31, .inl (fun _ => 0))), (q3863, .inl (cyI, 6, .inl (fun _ => 0)))] H := hP
  have hD : va_D A [(q3857, .inr (0, [.ref q3861, .ref q3862, .ref q3863, .int 0])), (q3861, .inl (cyI, 270, .inl (fun _ => 0))), (q3862, .inl (cyI, 31, .inl (fun _ => 0))), (q3863, .inl (cyI, 6, .inl (fun _ => 0)))] := hD
  exact W.vret hx hb hr (fun t ht hW => ⟨⟨(fun k => match k with | 0 => q3861 | 1 => q3862 | _ => q3863), rfl, trivial, cE.of ht hP hD [0, 1, 2, 3] (by decide) rfl⟩, hS.F ht⟩) hS.2.2 dX0_init_29
def wo_k_X0_clear_v5 : List Cond := [.fieldLink RX0 21 "ReplicaChain$Formula" "length" "I"]
def wq_k_X0_clear_v5 : List Cond := .code yX0_clear cX0_clear 1 none :: (wo_k_X0_clear_v5 ++ (wsX00 ++ []))
theorem gd_k_X0_clear_v5 : Gd wq_k_X0_clear_v5 := gd_c (gd_a (gd_o (by decide +kernel)) (gd_a gd_u gd_0))
abbrev wc_k_X0_clear_v5 (cyB cyI cyJ cyZ cyO : ClassId) (q3857 : Nat) (u3865 : Nat → Nat) : va_W := [(q3857, .inr (0, [.ref (u3865 0), .ref (u3865 1), .ref (u3865 2), .int 0]))]
set_option maxHeartbeats 4000000 in
set_option maxRecDepth 100000 in
theorem k_X0_clear_v5 (l : Launch) (dC : Nat → ClassId) (dI : Nat → Nat → Nat) (cyB cyI cyJ cyZ cyO : ClassId) (q3857 : Nat) (u3865 : Nat → Nat) (sz : Nat) : Met l yX0_clear wq_k_X0_clear_v5 ({ frames := 0, cells := 0, slots := 0, locals := 0 }) (va_Pc [.ref q3857] (cB (dC, dI) (kT cyB cyI cyJ cyZ cyO) (wc_k_X0_clear_v5 cyB cyI cyJ cyZ cyO q3857 u3865) sz)) (va_Qv (fun _ => True) (fun (u : Unit) t => cE (dC, dI) (va_A (wc_k_X0_clear_v5 cyB cyI cyJ cyZ cyO q3857 u3865) sz) ([(q3857, .inr (0, [.ref (u3865 0), .ref (u3865 1), .ref (u3865 2), .int 0]))]) t.heap) (va_A (wc_k_X0_clear_v5 cyB cyI cyJ cyZ cyO q3857 u3865) sz)) 0 0 (va_A (wc_k_X0_clear_v5 cyB cyI cyJ cyZ cyO q3857 u3865) sz) := by
  refine Met.ofW (cc := cX0_clear) (maxL := 1) (ret := none) (by decide) rfl ?_
  intro p e s m args below meth c s₁ B hml hv
  obtain ⟨rfl, hsz, hP, hKN, hD0⟩ := hv
  have hx := B.exec
  have hb := B.bytes
  have hr := B.returns
  have hts := atoms_spec (ws := wq_k_X0_clear_v5) B.pre
  have hown : s.vm.findClass RX0 = some m.cls := findClass_of_methodNamed B.named
  have hlocks := B.notSynchronized
  have hK := hKN.1
  have hfix : CallFix p m c cX0_clear 1 s [.ref q3857].toArray wq_k_X0_clear_v5 RX0 := ⟨hx, hb, hml, hown, hts⟩
  have hi0 : ∀ w ∈ wsX00, w ∈ wq_k_X0_clear_v5 := (sb_c sb_l)
  subst hsz
  have hD := hD0.self (sz := s.heap.size)
  generalize hAe : va_A (wc_k_X0_clear_v5 cyB cyI cyJ cyZ cyO q3857 u3865) s.heap.size = A at hD ⊢
  have hA : ∀ q : Nat, s.heap.size ≤ q → A q := fun q h => by rw [← hAe]; exact Or.inr h
  have hS : va_S A s.heap s.heap [] := va_S.rf
  have hl := lv_entry ([.ref q3857]) (n := 1) (Nat.le_of_ble_eq_true rfl)
  rw [lg_entry_eq]
  generalize (lg_sl ([.ref q3857]) ++ List.replicate (1 - (lg_sl ([.ref q3857])).length) Slot.unset).toArray = ls at hl ⊢
  have hl : lv_has ls 1 [(0, .ref q3857)] := hl
  refine lv_aload_n hx hb dX0_clear_0 rfl (lv_at hl 0 rfl) ?_
  refine lv_iconst (v := 0) hx hb dX0_clear_1 (by decide) ?_
  refine va_put (D := (dC, dI)) (ci := 0) (v := .int 0) (ty := .int) (C := RX0) (T := TX0) (N := 4) hx hb hts hi0 tyX0 tyX0_ok nmX0 hown hK hP hD hS 0 rfl rfl 3 (by decide) (hts _ (ow_m (k := 0) rfl)) (fun _ h9 => h9) rfl (by decide +kernel) rfl rfl (Nat.le_of_ble_eq_true rfl) dX0_clear_2 (fun H locs hP hD hS => ?_)
  have hP : va_P (dC, dI) vwCl [(q3857, .inr (0, [.ref (u3865 0), .ref (u3865 1), .ref (u3865 2), .int 0]))] H := hP
  have hD : va_D A [(q3857, .inr (0, [.ref (u3865 0), .ref (u3865 1), .ref (u3865 2), .int 0]))] := hD
  exact W.vret hx hb hr (fun t ht hW => ⟨⟨(), rfl, trivial, cE.of ht hP hD [0] (by decide) rfl⟩, hS.F ht⟩) hS.2.2 dX0_clear_5
def wo_k_X1_clear_v5 : List Cond := [.fieldLink RX1 25 "ReplicaChain$Plan" "slow" "LReplicaChain$Formula;", .methodLink RX1 32 yX0_clear, .instanceMethod yX0_clear, .selects RX0 yX0_clear yX0_clear, .initialized RX0, .fieldLink RX1 33 "ReplicaChain$Plan" "memberCount" "I", .fieldLink RX1 37 "ReplicaChain$Plan" "nodeCount" "I", .fieldLink RX1 40 "ReplicaChain$Plan" "keyCount" "I", .fieldLink RX1 43 "ReplicaChain$Plan" "units" "I", .fieldLink RX1 46 "ReplicaChain$Plan" "copy" "I", .fieldLink RX1 49 "ReplicaChain$Plan" "loss" "I", .fieldLink RX1 52 "ReplicaChain$Plan" "draw" "I"]
def wq_k_X1_clear_v5 : List Cond := .code yX1_clear cX1_clear 1 none :: (wo_k_X1_clear_v5 ++ (wq_k_X0_clear_v5 ++ (wsX10 ++ [])))
theorem gd_k_X1_clear_v5 : Gd wq_k_X1_clear_v5 := gd_c (gd_a (gd_o (by decide +kernel)) (gd_a gd_k_X0_clear_v5 (gd_a gd_u gd_0)))
abbrev wc_k_X1_clear_v5 (cyB cyI cyJ cyZ cyO : ClassId) (q3835 : Nat) (q3854 : Nat) (q3855 : Nat) (q3856 : Nat) (q3857 : Nat) (u3865 : Nat → Nat) : va_W := [(q3835, .inr (1, [.ref q3854, .ref q3855, .ref q3856, .ref q3857, .int 0, .int 0, .int 0, .int 0, .int 0, .int 0, .int 0])), (q3857, .inr (0, [.ref (u3865 0), .ref (u3865 1), .ref (u3865 2), .int 0]))]
set_option maxHeartbeats 4000000 in
set_option maxRecDepth 100000 in
theorem k_X1_clear_v5 (l : Launch) (dC : Nat → ClassId) (dI : Nat → Nat → Nat) (cyB cyI cyJ cyZ cyO : ClassId) (q3835 : Nat) (q3854 : Nat) (q3855 : Nat) (q3856 : Nat) (q3857 : Nat) (u3865 : Nat → Nat) (sz : Nat) : Met l yX1_clear wq_k_X1_clear_v5 ({ frames := 1, cells := 0, slots := 0, locals := 20 }) (va_Pc [.ref q3835] (cB (dC, dI) (kT cyB cyI cyJ cyZ cyO) (wc_k_X1_clear_v5 cyB cyI cyJ cyZ cyO q3835 q3854 q3855 q3856 q3857 u3865) sz)) (va_Qv (fun _ => True) (fun (u : Unit) t => cE (dC, dI) (va_A (wc_k_X1_clear_v5 cyB cyI cyJ cyZ cyO q3835 q3854 q3855 q3856 q3857 u3865) sz) ([(q3835, .inr (1, [.ref q3854, .ref q3855, .ref q3856, .ref q3857, .int 0, .int 0, .int 0, .int 0, .int 2, .int 0, .int 0])), (q3857, .inr (0, [.ref (u3865 0), .ref (u3865 1), .ref (u3865 2), .int 0]))]) t.heap) (va_A (wc_k_X1_clear_v5 cyB cyI cyJ cyZ cyO q3835 q3854 q3855 q3856 q3857 u3865) sz)) 0 0 (va_A (wc_k_X1_clear_v5 cyB cyI cyJ cyZ cyO q3835 q3854 q3855 q3856 q3857 u3865) sz) := by
  refine Met.ofW (cc := cX1_clear) (maxL := 1) (ret := none) (by decide) rfl ?_
  intro p e s m args below meth c s₁ B hml hv
  obtain ⟨rfl, hsz, hP, hKN, hD0⟩ := hv
  have hx := B.exec
  have hb := B.bytes
  have hr := B.returns
  have hts := atoms_spec (ws := wq_k_X1_clear_v5) B.pre
  have hown : s.vm.findClass RX1 = some m.cls := findClass_of_methodNamed B.named
  have hlocks := B.notSynchronized
  have hK := hKN.1
  have hfix : CallFix p m c cX1_clear 1 s [.ref q3835].toArray wq_k_X1_clear_v5 RX1 := ⟨hx, hb, hml, hown, hts⟩
  have hi1 : ∀ w ∈ wsX10, w ∈ wq_k_X1_clear_v5 := (sb_c (sb_r sb_l))
  subst hsz
  have hD := hD0.self (sz := s.heap.size)
  generalize hAe : va_A (wc_k_X1_clear_v5 cyB cyI cyJ cyZ cyO q3835 q3854 q3855 q3856 q3857 u3865) s.heap.size = A at hD ⊢
  have hA : ∀ q : Nat, s.heap.size ≤ q → A q := fun q h => by rw [← hAe]; exact Or.inr h
  have hS : va_S A s.heap s.heap [] := va_S.rf
  have hl := lv_entry ([.ref q3835]) (n := 1) (Nat.le_of_ble_eq_true rfl)
  rw [lg_entry_eq]
  generalize (lg_sl ([.ref q3835]) ++ List.replicate (1 - (lg_sl ([.ref q3835])).length) Slot.unset).toArray = ls at hl ⊢
  have hl : lv_has ls 1 [(0, .ref q3835)] := hl
  refine lv_aload_n hx hb dX1_clear_0 rfl (lv_at hl 0 rfl) ?_
  refine va_get (D := (dC, dI)) (ci := 1) (v := .ref q3857) (C := RX1) (T := TX1) (N := 11) hx hb hts hi1 hown hK hP 0 rfl rfl 3 (by decide) (hts _ (ow_m (k := 0) rfl)) (fun _ h9 => h9) rfl dX1_clear_1 ?_
  refine gf_v (wr := [(q3835, .inr (1, [.ref q3854, .ref q3855, .ref q3856, .ref q3857, .int 0, .int 0, .int 0, .int 0, .int 0, .int 0, .int 0]))]) (va_runV (As := []) (rest := []) hfix (k_X0_clear_v5 l dC dI cyB cyI cyJ cyZ cyO q3857 u3865 _) (cwV 0 hts (gi_V (ow_m (k := 1) rfl) (ow_m (k := 2) rfl) (ow_m (k := 3) rfl) (ow_m (k := 4) rfl) (sb_c sb_l) gd_k_X0_clear_v5) rfl rfl rfl (by decide +kernel) ⟨Nat.le_of_ble_eq_true rfl, Nat.le_of_ble_eq_true rfl⟩) (g_preV hKN hP hD [1] rfl (by decide) 0 0 rfl rfl) rfl rfl hl.1 rfl (lv_room (Nat.le_of_ble_eq_true rfl)) dX1_clear_4 ⟨Nat.le_of_ble_eq_true rfl, Nat.le_of_ble_eq_true rfl⟩) hP hD hS hA [1] [0] rfl rfl (by decide) (by decide) (fun u3869 H locs qu3869 hP hD hS => ?_)
  have hP : va_P (dC, dI) vwCl [(q3835, .inr (1, [.ref q3854, .ref q3855, .ref q3856, .ref q3857, .int 0, .int 0, .int 0, .int 0, .int 0, .int 0, .int 0])), (q3857, .inr (0, [.ref (u3865 0), .ref (u3865 1), .ref (u3865 2), .int 0]))] H := hP
  have hD : va_D A [(q3835, .inr (1, [.ref q3854, .ref q3855, .ref q3856, .ref q3857, .int 0, .int 0, .int 0, .int 0, .int 0, .int 0, .int 0])), (q3857, .inr (0, [.ref (u3865 0), .ref (u3865 1), .ref (u3865 2), .int 0]))] := hD
  refine lv_aload_n hx hb dX1_clear_7 rfl (lv_at hl 0 rfl) ?_
  refine lv_iconst (v := 0) hx hb dX1_clear_8 (by decide) ?_
  refine va_put (D := (dC, dI)) (ci := 1) (v := .int 0) (ty := .int) (C := RX1) (T := TX1) (N := 11) hx hb hts hi1 tyX1 tyX1_ok nmX1 hown hK hP hD hS 0 rfl rfl 4 (by decide) (hts _ (ow_m (k := 5) rfl)) (fun _ h9 => h9) rfl (by decide +kernel) rfl rfl (Nat.le_of_ble_eq_true rfl) dX1_clear_9 (fun H locs hP hD hS => ?_)
  have hP : va_P (dC, dI) vwCl [(q3835, .inr (1, [.ref q3854, .ref q3855, .ref q3856, .ref q3857, .int 0, .int 0, .int 0, .int 0, .int 0, .int 0, .int 0])), (q3857, .inr (0, [.ref (u3865 0), .ref (u3865 1), .ref (u3865 2), .int 0]))] H := hP
  have hD : va_D A [(q3835, .inr (1, [.ref q3854, .ref q3855, .ref q3856, .ref q3857, .int 0, .int 0, .int 0, .int 0, .int 0, .int 0, .int 0])), (q3857, .inr (0, [.ref (u3865 0), .ref (u3865 1), .ref (u3865 2), .int 0]))] := hD
  refine lv_aload_n hx hb dX1_clear_12 rfl (lv_at hl 0 rfl) ?_
  refine lv_iconst (v := 0) hx hb dX1_clear_13 (by decide) ?_
  refine va_put (D := (dC, dI)) (ci := 1) (v := .int 0) (ty := .int) (C := RX1) (T := TX1) (N := 11) hx hb hts hi1 tyX1 tyX1_ok nmX1 hown hK hP hD hS 0 rfl rfl 5 (by decide) (hts _ (ow_m (k := 6) rfl)) (fun _ h9 => h9) rfl (by decide +kernel) rfl rfl (Nat.le_of_ble_eq_true rfl) dX1_clear_14 (fun H locs hP hD hS => ?_)
  have hP : va_P (dC, dI) vwCl [(q3835, .inr (1, [.ref q3854, .ref q3855, .ref q3856, .ref q3857, .int 0, .int 0, .int 0, .int 0, .int 0, .int 0, .int 0])), (q3857, .inr (0, [.ref (u3865 0), .ref (u3865 1), .ref (u3865 2), .int 0]))] H := hP
  have hD : va_D A [(q3835, .inr (1, [.ref q3854, .ref q3855, .ref q3856, .ref q3857, .int 0, .int 0, .int 0, .int 0, .int 0, .int 0, .int 0])), (q3857, .inr (0, [.ref (u3865 0), .ref (u3865 1), .ref (u3865 2), .int 0]))] := hD
  refine lv_aload_n hx hb dX1_clear_17 rfl (lv_at hl 0 rfl) ?_
  refine lv_iconst (v := 0) hx hb dX1_clear_18 (by decide) ?_
  refine va_put (D := (dC, dI)) (ci := 1) (v := .int 0) (ty := .int) (C := RX1) (T := TX1) (N := 11) hx hb hts hi1 tyX1 tyX1_ok nmX1 hown hK hP hD hS 0 rfl rfl 6 (by decide) (hts _ (ow_m (k := 7) rfl)) (fun _ h9 => h9) rfl (by decide +kernel) rfl rfl (Nat.le_of_ble_eq_true rfl) dX1_clear_19 (fun H locs hP hD hS => ?_)
  have hP : va_P (dC, dI) vwCl [(q3835, .inr (1, [.ref q3854, .ref q3855, .ref q3856, .ref q3857, .int 0, .int 0, .int 0, .int 0, .int 0, .int 0, .int 0])), (q3857, .inr (0, [.ref (u3865 0), .ref (u3865 1), .ref (u3865 2), .int 0]))] H := hP
  have hD : va_D A [(q3835, .inr (1, [.ref q3854, .ref q3855, .ref q3856, .ref q3857, .int 0, .int 0, .int 0, .int 0, .int 0, .int 0, .int 0])), (q3857, .inr (0, [.ref (u3865 0), .ref (u3865 1), .ref (u3865 2), .int 0]))] := hD
  refine lv_aload_n hx hb dX1_clear_22 rfl (lv_at hl 0 rfl) ?_
  refine lv_iconst (v := 0) hx hb dX1_clear_23 (by decide) ?_
  refine va_put (D := (dC, dI)) (ci := 1) (v := .int 0) (ty := .int) (C := RX1) (T := TX1) (N := 11) hx hb hts hi1 tyX1 tyX1_ok nmX1 hown hK hP hD hS 0 rfl rfl 7 (by decide) (hts _ (ow_m (k := 8) rfl)) (fun _ h9 => h9) rfl (by decide +kernel) rfl rfl (Nat.le_of_ble_eq_true rfl) dX1_clear_24 (fun H locs hP hD hS => ?_)
  have hP : va_P (dC, dI) vwCl [(q3835, .inr (1, [.ref q3854, .ref q3855, .ref q3856, .ref q3857, .int 0, .int 0, .int 0, .int 0, .int 0, .int 0, .int 0])), (q3857, .inr (0, [.ref (u3865 0), .ref (u3865 1), .ref (u3865 2), .int 0]))] H := hP
  have hD : va_D A [(q3835, .inr (1, [.ref q3854, .ref q3855, .ref q3856, .ref q3857, .int 0, .int 0, .int 0, .int 0, .int 0, .int 0, .int 0])), (q3857, .inr (0, [.ref (u3865 0), .ref (u3865 1), .ref (u3865 2), .int 0]))] := hD
  refine lv_aload_n hx hb dX1_clear_27 rfl (lv_at hl 0 rfl) ?_
  refine lv_iconst (v := 2) hx hb dX1_clear_28 (by decide) ?_
  refine va_put (D := (dC, dI)) (ci := 1) (v := .int 2) (ty := .int) (C := RX1) (T := TX1) (N := 11) hx hb hts hi1 tyX1 tyX1_ok nmX1 hown hK hP hD hS 0 rfl rfl 8 (by decide) (hts _ (ow_m (k := 9) rfl)) (fun _ h9 => h9) rfl (by decide +kernel) rfl rfl (Nat.le_of_ble_eq_true rfl) dX1_clear_29 (fun H locs hP hD hS => ?_)
  have hP : va_P (dC, dI) vwCl [(q3835, .inr (1, [.ref q3854, .ref q3855, .ref q3856, .ref q3857, .int 0, .int 0, .int 0, .int 0, .int 2, .int 0, .int 0])), (q3857, .inr (0, [.ref (u3865 0), .ref (u3865 1), .ref (u3865 2), .int 0]))] H := hP
  have hD : va_D A [(q3835, .inr (1, [.ref q3854, .ref q3855, .ref q3856, .ref q3857, .int 0, .int 0, .int 0, .int 0, .int 2, .int 0, .int 0])), (q3857, .inr (0, [.ref (u3865 0), .ref (u3865 1), .ref (u3865 2), .int 0]))] := hD
  refine lv_aload_n hx hb dX1_clear_32 rfl (lv_at hl 0 rfl) ?_
  refine lv_iconst (v := 0) hx hb dX1_clear_33 (by decide) ?_
  refine va_put (D := (dC, dI)) (ci := 1) (v := .int 0) (ty := .int) (C := RX1) (T := TX1) (N := 11) hx hb hts hi1 tyX1 tyX1_ok nmX1 hown hK hP hD hS 0 rfl rfl 9 (by decide) (hts _ (ow_m (k := 10) rfl)) (fun _ h9 => h9) rfl (by decide +kernel) rfl rfl (Nat.le_of_ble_eq_true rfl) dX1_clear_34 (fun H locs hP hD hS => ?_)
  have hP : va_P (dC, dI) vwCl [(q3835, .inr (1, [.ref q3854, .ref q3855, .ref q3856, .ref q3857, .int 0, .int 0, .int 0, .int 0, .int 2, .int 0, .int 0])), (q3857, .inr (0, [.ref (u3865 0), .ref (u3865 1), .ref (u3865 2), .int 0]))] H := hP
  have hD : va_D A [(q3835, .inr (1, [.ref q3854, .ref q3855, .ref q3856, .ref q3857, .int 0, .int 0, .int 0, .int 0, .int 2, .int 0, .int 0])), (q3857, .inr (0, [.ref (u3865 0), .ref (u3865 1), .ref (u3865 2), .int 0]))] := hD
  refine lv_aload_n hx hb dX1_clear_37 rfl (lv_at hl 0 rfl) ?_
  refine lv_iconst (v := 0) hx hb dX1_clear_38 (by decide) ?_
  refine va_put (D := (dC, dI)) (ci := 1) (v := .int 0) (ty := .int) (C := RX1) (T := TX1) (N := 11) hx hb hts hi1 tyX1 tyX1_ok nmX1 hown hK hP hD hS 0 rfl rfl 10 (by decide) (hts _ (ow_m (k := 11) rfl)) (fun _ h9 => h9) rfl (by decide +kernel) rfl rfl (Nat.le_of_ble_eq_true rfl) dX1_clear_39 (fun H locs hP hD hS => ?_)
  have hP : va_P (dC, dI) vwCl [(q3835, .inr (1, [.ref q3854, .ref q3855, .ref q3856, .ref q3857, .int 0, .int 0, .int 0, .int 0, .int 2, .int 0, .int 0])), (q3857, .inr (0, [.ref (u3865 0), .ref (u3865 1), .ref (u3865 2), .int 0]))] H := hP
  have hD : va_D A [(q3835, .inr (1, [.ref q3854, .ref q3855, .ref q3856, .ref q3857, .int 0, .int 0, .int 0, .int 0, .int 2, .int 0, .int 0])), (q3857, .inr (0, [.ref (u3865 0), .ref (u3865 1), .ref (u3865 2), .int 0]))] := hD
  exact W.vret hx hb hr (fun t ht hW => ⟨⟨(), rfl, trivial, cE.of ht hP hD [0, 1] (by decide) rfl⟩, hS.F ht⟩) hS.2.2 dX1_clear_42
def wo_k_X1_init_v2 : List Cond := [.methodLink RX1 3 objectInit, .instanceMethod objectInit, .code objectInit ⟨#[0xb1]⟩ 1 none, .arrayClass .int, .fieldLink RX1 9 "ReplicaChain$Plan" "members" "[I", .arrayClass .long, .fieldLink RX1 15 "ReplicaChain$Plan" "nodeNames" "[J", .fieldLink RX1 19 "ReplicaChain$Plan" "keyNames" "[J", .classLink RX1 22 RX0, .instantiable RX0 4, .initialized RX0, .instanceMethod yX0_init, .fieldLink RX1 25 "ReplicaChain$Plan" "slow" "LReplicaChain$Formula;", .methodLink RX1 29 yX1_clear, .instanceMethod yX1_clear, .selects RX1 yX1_clear yX1_clear, .initialized RX1]
def wq_k_X1_init_v2 : List Cond := .code yX1_init cX1_init 1 none :: (wo_k_X1_init_v2 ++ (wq_k_X0_init_v4 ++ (wq_k_X1_clear_v5 ++ (wsX00 ++ (wsX10 ++ [])))))
theorem gd_k_X1_init_v2 : Gd wq_k_X1_init_v2 := gd_c (gd_a (gd_o (by decide +kernel)) (gd_a gd_k_X0_init_v4 (gd_a gd_k_X1_clear_v5 (gd_a gd_u (gd_a gd_u gd_0)))))
abbrev wc_k_X1_init_v2 (cyB cyI cyJ cyZ cyO : ClassId) (q3835 : Nat) : va_W := [(q3835, .inr (1, [.null, .null, .null, .null, .int 0, .int 0, .int 0, .int 0, .int 0, .int 0, .int 0]))]
set_option maxHeartbeats 4000000 in
set_option maxRecDepth 100000 in
theorem k_X1_init_v2 (l : Launch) (dC : Nat → ClassId) (dI : Nat → Nat → Nat) (cyB cyI cyJ cyZ cyO : ClassId) (q3835 : Nat) (sz : Nat) : Met l yX1_init wq_k_X1_init_v2 ({ frames := 2, cells := 7, slots := 329, locals := 40 }) (va_Pc [.ref q3835] (cB (dC, dI) (kT cyB cyI cyJ cyZ cyO) (wc_k_X1_init_v2 cyB cyI cyJ cyZ cyO q3835) sz)) (va_Qv (fun _ => True) (fun (u : Nat → Nat) t => cE (dC, dI) (va_A (wc_k_X1_init_v2 cyB cyI cyJ cyZ cyO q3835) sz) ([(q3835, .inr (1, [.ref (u 0), .ref (u 1), .ref (u 2), .ref (u 6), .int 0, .int 0, .int 0, .int 0, .int 2, .int 0, .int 0])), (u 0, .inl (cyI, 6, .inl (fun _ => 0))), (u 1, .inl (cyJ, 8, .inr (.inl (fun _ => 0)))), (u 2, .inl (cyJ, 4, .inr (.inl (fun _ => 0)))), (u 3, .inl (cyI, 270, .inl (fun _ => 0))), (u 4, .inl (cyI, 31, .inl (fun _ => 0))), (u 5, .inl (cyI, 6, .inl (fun _ => 0))), (u 6, .inr (0, [.ref (u 3), .ref (u 4), .ref (u 5), .int 0]))]) t.heap) (va_A (wc_k_X1_init_v2 cyB cyI cyJ cyZ cyO q3835) sz)) 7 329 (va_A (wc_k_X1_init_v2 cyB cyI cyJ cyZ cyO q3835) sz) := by
  refine Met.ofW (cc := cX1_init) (maxL := 1) (ret := none) (by decide) rfl ?_
  intro p e s m args below meth c s₁ B hml hv
  obtain ⟨rfl, hsz, hP, hKN, hD0⟩ := hv
  have hx := B.exec
  have hb := B.bytes
  have hr := B.returns
  have hts := atoms_spec (ws := wq_k_X1_init_v2) B.pre
  have hown : s.vm.findClass RX1 = some m.cls := findClass_of_methodNamed B.named
  have hlocks := B.notSynchronized
  have hin : meth.name = "<init>" := (name_of_methodNamed B.named B.method).1
  have hK := hKN.1
  have hfix : CallFix p m c cX1_init 1 s [.ref q3835].toArray wq_k_X1_init_v2 RX1 := ⟨hx, hb, hml, hown, hts⟩
  have hi0 : ∀ w ∈ wsX00, w ∈ wq_k_X1_init_v2 := (sb_c (sb_r (sb_r sb_l)))
  have hi1 : ∀ w ∈ wsX10, w ∈ wq_k_X1_init_v2 := (sb_c (sb_r (sb_r (sb_r sb_l))))
  subst hsz
  have hD := hD0.self (sz := s.heap.size)
  generalize hAe : va_A (wc_k_X1_init_v2 cyB cyI cyJ cyZ cyO q3835) s.heap.size = A at hD ⊢
  have hA : ∀ q : Nat, s.heap.size ≤ q → A q := fun q h => by rw [← hAe]; exact Or.inr h
  have hS : va_S A s.heap s.heap [] := va_S.rf
  have hl := lv_entry ([.ref q3835]) (n := 1) (Nat.le_of_ble_eq_true rfl)
  rw [lg_entry_eq]
  generalize (lg_sl ([.ref q3835]) ++ List.replicate (1 - (lg_sl ([.ref q3835])).length) Slot.unset).toArray = ls at hl ⊢
  have hl : lv_has ls 1 [(0, .ref q3835)] := hl
  refine lv_aload_n hx hb dX1_init_0 rfl (lv_at hl 0 rfl) ?_
  refine W.objInit hx hb hown (hts _ (ow_m (k := 0) rfl)) (hts _ (ow_m (k := 1) rfl)) (hts _ (ow_m (k := 2) rfl)) rfl (by rw [hml]; exact hl.1) rfl dX1_init_1 (Nat.le_of_ble_eq_true rfl) (Nat.le_of_ble_eq_true rfl) ?_
  refine W.eq (g2 := F0 m 4 ls []) rfl ?_
  refine lv_aload_n hx hb dX1_init_4 rfl (lv_at hl 0 rfl) ?_
  refine lv_bipush (v := 6) hx hb dX1_init_5 (by decide) ?_
  refine g_newa (a0 := (6, .inl (fun _ => 0))) hx hb (hts _ (ow_m (k := 3) rfl)) rfl hKN hP hD hS hA 1 rfl rfl (fun _ => rfl) (by decide) (by decide) (by decide) (Nat.le_of_ble_eq_true rfl) (Nat.le_of_ble_eq_true rfl) dX1_init_7 (fun q3854 H hP hD hS => ?_)
  have hP : va_P (dC, dI) vwCl [(q3835, .inr (1, [.null, .null, .null, .null, .int 0, .int 0, .int 0, .int 0, .int 0, .int 0, .int 0])), (q3854, .inl (cyI, 6, .inl (fun _ => 0)))] H := hP
  have hD : va_D A [(q3835, .inr (1, [.null, .null, .null, .null, .int 0, .int 0, .int 0, .int 0, .int 0, .int 0, .int 0])), (q3854, .inl (cyI, 6, .inl (fun _ => 0)))] := hD
  refine W.widen (k := 1) (n := 6) (by omega) (by omega) ?_
  refine va_putF (D := (dC, dI)) (ci := 1) (v := .ref q3854) (ty := .array .int) (C := RX1) (T := TX1) (N := 11) hx hb hts hi1 tyX1 tyX1_ok nmX1 hown hK hP hD hS 0 rfl rfl 0 (by decide) (hts _ (ow_m (k := 4) rfl)) (fun _ h9 => h9) rfl hin rfl (by decide +kernel) rfl rfl (Nat.le_of_ble_eq_true rfl) dX1_init_9 (fun H locs hP hD hS => ?_)
  have hP : va_P (dC, dI) vwCl [(q3835, .inr (1, [.ref q3854, .null, .null, .null, .int 0, .int 0, .int 0, .int 0, .int 0, .int 0, .int 0])), (q3854, .inl (cyI, 6, .inl (fun _ => 0)))] H := hP
  have hD : va_D A [(q3835, .inr (1, [.ref q3854, .null, .null, .null, .int 0, .int 0, .int 0, .int 0, .int 0, .int 0, .int 0])), (q3854, .inl (cyI, 6, .inl (fun _ => 0)))] := hD
  refine lv_aload_n hx hb dX1_init_12 rfl (lv_at hl 0 rfl) ?_
  refine lv_bipush (v := 8) hx hb dX1_init_13 (by decide) ?_
  refine g_newa (a0 := (8, .inr (.inl (fun _ => 0)))) hx hb (hts _ (ow_m (k := 5) rfl)) rfl hKN hP hD hS hA 2 rfl rfl (fun _ => rfl) (by decide) (by decide) (by decide) (Nat.le_of_ble_eq_true rfl) (Nat.le_of_ble_eq_true rfl) dX1_init_15 (fun q3855 H hP hD hS => ?_)
  have hP : va_P (dC, dI) vwCl [(q3835, .inr (1, [.ref q3854, .null, .null, .null, .int 0, .int 0, .int 0, .int 0, .int 0, .int 0, .int 0])), (q3854, .inl (cyI, 6, .inl (fun _ => 0))), (q3855, .inl (cyJ, 8, .inr (.inl (fun _ => 0))))] H := hP
  have hD : va_D A [(q3835, .inr (1, [.ref q3854, .null, .null, .null, .int 0, .int 0, .int 0, .int 0, .int 0, .int 0, .int 0])), (q3854, .inl (cyI, 6, .inl (fun _ => 0))), (q3855, .inl (cyJ, 8, .inr (.inl (fun _ => 0))))] := hD
  refine W.widen (k := 2) (n := 14) (by omega) (by omega) ?_
  refine va_putF (D := (dC, dI)) (ci := 1) (v := .ref q3855) (ty := .array .long) (C := RX1) (T := TX1) (N := 11) hx hb hts hi1 tyX1 tyX1_ok nmX1 hown hK hP hD hS 0 rfl rfl 1 (by decide) (hts _ (ow_m (k := 6) rfl)) (fun _ h9 => h9) rfl hin rfl (by decide +kernel) rfl rfl (Nat.le_of_ble_eq_true rfl) dX1_init_17 (fun H locs hP hD hS => ?_)
  have hP : va_P (dC, dI) vwCl [(q3835, .inr (1, [.ref q3854, .ref q3855, .null, .null, .int 0, .int 0, .int 0, .int 0, .int 0, .int 0, .int 0])), (q3854, .inl (cyI, 6, .inl (fun _ => 0))), (q3855, .inl (cyJ, 8, .inr (.inl (fun _ => 0))))] H := hP
  have hD : va_D A [(q3835, .inr (1, [.ref q3854, .ref q3855, .null, .null, .int 0, .int 0, .int 0, .int 0, .int 0, .int 0, .int 0])), (q3854, .inl (cyI, 6, .inl (fun _ => 0))), (q3855, .inl (cyJ, 8, .inr (.inl (fun _ => 0))))] := hD
  refine lv_aload_n hx hb dX1_init_20 rfl (lv_at hl 0 rfl) ?_
  refine lv_iconst (v := 4) hx hb dX1_init_21 (by decide) ?_
  refine g_newa (a0 := (4, .inr (.inl (fun _ => 0)))) hx hb (hts _ (ow_m (k := 5) rfl)) rfl hKN hP hD hS hA 2 rfl rfl (fun _ => rfl) (by decide) (by decide) (by decide) (Nat.le_of_ble_eq_true rfl) (Nat.le_of_ble_eq_true rfl) dX1_init_22 (fun q3856 H hP hD hS => ?_)
  have hP : va_P (dC, dI) vwCl [(q3835, .inr (1, [.ref q3854, .ref q3855, .null, .null, .int 0, .int 0, .int 0, .int 0, .int 0, .int 0, .int 0])), (q3854, .inl (cyI, 6, .inl (fun _ => 0))), (q3855, .inl (cyJ, 8, .inr (.inl (fun _ => 0)))), (q3856, .inl (cyJ, 4, .inr (.inl (fun _ => 0))))] H := hP
  have hD : va_D A [(q3835, .inr (1, [.ref q3854, .ref q3855, .null, .null, .int 0, .int 0, .int 0, .int 0, .int 0, .int 0, .int 0])), (q3854, .inl (cyI, 6, .inl (fun _ => 0))), (q3855, .inl (cyJ, 8, .inr (.inl (fun _ => 0)))), (q3856, .inl (cyJ, 4, .inr (.inl (fun _ => 0))))] := hD
  refine W.widen (k := 3) (n := 18) (by omega) (by omega) ?_
  refine va_putF (D := (dC, dI)) (ci := 1) (v := .ref q3856) (ty := .array .long) (C := RX1) (T := TX1) (N := 11) hx hb hts hi1 tyX1 tyX1_ok nmX1 hown hK hP hD hS 0 rfl rfl 2 (by decide) (hts _ (ow_m (k := 7) rfl)) (fun _ h9 => h9) rfl hin rfl (by decide +kernel) rfl rfl (Nat.le_of_ble_eq_true rfl) dX1_init_24 (fun H locs hP hD hS => ?_)
  have hP : va_P (dC, dI) vwCl [(q3835, .inr (1, [.ref q3854, .ref q3855, .ref q3856, .null, .int 0, .int 0, .int 0, .int 0, .int 0, .int 0, .int 0])), (q3854, .inl (cyI, 6, .inl (fun _ => 0))), (q3855, .inl (cyJ, 8, .inr (.inl (fun _ => 0)))), (q3856, .inl (cyJ, 4, .inr (.inl (fun _ => 0))))] H := hP
  have hD : va_D A [(q3835, .inr (1, [.ref q3854, .ref q3855, .ref q3856, .null, .int 0, .int 0, .int 0, .int 0, .int 0, .int 0, .int 0])), (q3854, .inl (cyI, 6, .inl (fun _ => 0))), (q3855, .inl (cyJ, 8, .inr (.inl (fun _ => 0)))), (q3856, .inl (cyJ, 4, .inr (.inl (fun _ => 0))))] := hD
  refine lv_aload_n hx hb dX1_init_27 rfl (lv_at hl 0 rfl) ?_
  refine va_new (ci := 0) (fs := [.null, .null, .null, .int 0]) (C := RX0) (T := TX0) (N := 4) hx hb hts hi0 tyX0 tyX0_ok hown (hts _ (ow_m (k := 8) rfl)) (hts _ (ow_m (k := 9) rfl)) (hts _ (ow_m (k := 10) rfl)) hK hP hD hS hA rfl (by decide) (Nat.le_of_ble_eq_true rfl) (Nat.le_of_ble_eq_true rfl) dX1_init_28 (fun q3857 H hP hD hS => ?_)
  have hP : va_P (dC, dI) vwCl [(q3835, .inr (1, [.ref q3854, .ref q3855, .ref q3856, .null, .int 0, .int 0, .int 0, .int 0, .int 0, .int 0, .int 0])), (q3854, .inl (cyI, 6, .inl (fun _ => 0))), (q3855, .inl (cyJ, 8, .inr (.inl (fun _ => 0)))), (q3856, .inl (cyJ, 4, .inr (.inl (fun _ => 0)))), (q3857, .inr (0, [.null, .null, .null, .int 0]))] H := hP
  have hD : va_D A [(q3835, .inr (1, [.ref q3854, .ref q3855, .ref q3856, .null, .int 0, .int 0, .int 0, .int 0, .int 0, .int 0, .int 0])), (q3854, .inl (cyI, 6, .inl (fun _ => 0))), (q3855, .inl (cyJ, 8, .inr (.inl (fun _ => 0)))), (q3856, .inl (cyJ, 4, .inr (.inl (fun _ => 0)))), (q3857, .inr (0, [.null, .null, .null, .int 0]))] := hD
  refine W.widen (k := 4) (n := 22) (by omega) (by omega) ?_
  refine lv_dup hx hb dX1_init_31 rfl ?_
  refine gf_v (wr := [(q3835, .inr (1, [.ref q3854, .ref q3855, .ref q3856, .null, .int 0, .int 0, .int 0, .int 0, .int 0, .int 0, .int 0])), (q3854, .inl (cyI, 6, .inl (fun _ => 0))), (q3855, .inl (cyJ, 8, .inr (.inl (fun _ => 0)))), (q3856, .inl (cyJ, 4, .inr (.inl (fun _ => 0))))]) (va_runIN (As := []) (rest := [.ref q3857, .ref q3835]) hfix (k_X0_init_v4 l dC dI cyB cyI cyJ cyZ cyO q3857 _) ⟨va_cnB 0 hts (gi_I (sb_c sb_l) gd_k_X0_init_v4) rfl rfl rfl hKN.2.1 (hts _ (ow_m (k := 10) rfl)) (by decide +kernel) ⟨Nat.le_of_ble_eq_true rfl, Nat.le_of_ble_eq_true rfl⟩, rfl, (hts _ (ow_m (k := 11) rfl))⟩ (g_preS hKN hP hD [4] rfl (by decide)) rfl rfl hl.1 rfl (lv_room (Nat.le_of_ble_eq_true rfl)) dX1_init_32 ⟨Nat.le_of_ble_eq_true rfl, Nat.le_of_ble_eq_true rfl⟩) hP hD hS hA [4] [0, 1, 2, 3] rfl rfl (by decide) (by decide) (fun u3865 H locs qu3865 hP hD hS => ?_)
  have hP : va_P (dC, dI) vwCl [(q3835, .inr (1, [.ref q3854, .ref q3855, .ref q3856, .null, .int 0, .int 0, .int 0, .int 0, .int 0, .int 0, .int 0])), (q3854, .inl (cyI, 6, .inl (fun _ => 0))), (q3855, .inl (cyJ, 8, .inr (.inl (fun _ => 0)))), (q3856, .inl (cyJ, 4, .inr (.inl (fun _ => 0)))), (q3857, .inr (0, [.ref (u3865 0), .ref (u3865 1), .ref (u3865 2), .int 0])), (u3865 0, .inl (cyI, 270, .inl (fun _ => 0))), (u3865 1, .inl (cyI, 31, .inl (fun _ => 0))), (u3865 2, .inl (cyI, 6, .inl (fun _ => 0)))] H := hP
  have hD : va_D A [(q3835, .inr (1, [.ref q3854, .ref q3855, .ref q3856, .null, .int 0, .int 0, .int 0, .int 0, .int 0, .int 0, .int 0])), (q3854, .inl (cyI, 6, .inl (fun _ => 0))), (q3855, .inl (cyJ, 8, .inr (.inl (fun _ => 0)))), (q3856, .inl (cyJ, 4, .inr (.inl (fun _ => 0)))), (q3857, .inr (0, [.ref (u3865 0), .ref (u3865 1), .ref (u3865 2), .int 0])), (u3865 0, .inl (cyI, 270, .inl (fun _ => 0))), (u3865 1, .inl (cyI, 31, .inl (fun _ => 0))), (u3865 2, .inl (cyI, 6, .inl (fun _ => 0)))] := hD
  refine W.widen (k := 7) (n := 329) (by omega) (by omega) ?_
  refine va_putF (D := (dC, dI)) (ci := 1) (v := .ref q3857) (ty := .object "ReplicaChain$Formula") (C := RX1) (T := TX1) (N := 11) hx hb hts hi1 tyX1 tyX1_ok nmX1 hown hK hP hD hS 0 rfl rfl 3 (by decide) (hts _ (ow_m (k := 12) rfl)) (fun _ h9 => h9) rfl hin rfl (by decide +kernel) rfl rfl (Nat.le_of_ble_eq_true rfl) dX1_init_35 (fun H locs hP hD hS => ?_)
  have hP : va_P (dC, dI) vwCl [(q3835, .inr (1, [.ref q3854, .ref q3855, .ref q3856, .ref q3857, .int 0, .int 0, .int 0, .int 0, .int 0, .int 0, .int 0])), (q3854, .inl (cyI, 6, .inl (fun _ => 0))), (q3855, .inl (cyJ, 8, .inr (.inl (fun _ => 0)))), (q3856, .inl (cyJ, 4, .inr (.inl (fun _ => 0)))), (q3857, .inr (0, [.ref (u3865 0), .ref (u3865 1), .ref (u3865 2), .int 0])), (u3865 0, .inl (cyI, 270, .inl (fun _ => 0))), (u3865 1, .inl (cyI, 31, .inl (fun _ => 0))), (u3865 2, .inl (cyI, 6, .inl (fun _ => 0)))] H := hP
  have hD : va_D A [(q3835, .inr (1, [.ref q3854, .ref q3855, .ref q3856, .ref q3857, .int 0, .int 0, .int 0, .int 0, .int 0, .int 0, .int 0])), (q3854, .inl (cyI, 6, .inl (fun _ => 0))), (q3855, .inl (cyJ, 8, .inr (.inl (fun _ => 0)))), (q3856, .inl (cyJ, 4, .inr (.inl (fun _ => 0)))), (q3857, .inr (0, [.ref (u3865 0), .ref (u3865 1), .ref (u3865 2), .int 0])), (u3865 0, .inl (cyI, 270, .inl (fun _ => 0))), (u3865 1, .inl (cyI, 31, .inl (fun _ => 0))), (u3865 2, .inl (cyI, 6, .inl (fun _ => 0)))] := hD
  refine lv_aload_n hx hb dX1_init_38 rfl (lv_at hl 0 rfl) ?_
  refine gf_v (wr := [(q3854, .inl (cyI, 6, .inl (fun _ => 0))), (q3855, .inl (cyJ, 8, .inr (.inl (fun _ => 0)))), (q3856, .inl (cyJ, 4, .inr (.inl (fun _ => 0)))), (u3865 0, .inl (cyI, 270, .inl (fun _ => 0))), (u3865 1, .inl (cyI, 31, .inl (fun _ => 0))), (u3865 2, .inl (cyI, 6, .inl (fun _ => 0)))]) (va_runV (As := []) (rest := []) hfix (k_X1_clear_v5 l dC dI cyB cyI cyJ cyZ cyO q3835 q3854 q3855 q3856 q3857 u3865 _) (cwV 0 hts (gi_V (ow_m (k := 13) rfl) (ow_m (k := 14) rfl) (ow_m (k := 15) rfl) (ow_m (k := 16) rfl) (sb_c (sb_r sb_l)) gd_k_X1_clear_v5) rfl rfl rfl (by decide +kernel) ⟨Nat.le_of_ble_eq_true rfl, Nat.le_of_ble_eq_true rfl⟩) (g_preV hKN hP hD [0, 4] rfl (by decide) 0 1 rfl rfl) rfl rfl hl.1 rfl (lv_room (Nat.le_of_ble_eq_true rfl)) dX1_init_39 ⟨Nat.le_of_ble_eq_true rfl, Nat.le_of_ble_eq_true rfl⟩) hP hD hS hA [0, 4] [1, 2, 3, 5, 6, 7] rfl rfl (by decide) (by decide) (fun u3871 H locs qu3871 hP hD hS => ?_)
  have hP : va_P (dC, dI) vwCl [(q3854, .inl (cyI, 6, .inl (fun _ => 0))), (q3855, .inl (cyJ, 8, .inr (.inl (fun _ => 0)))), (q3856, .inl (cyJ, 4, .inr (.inl (fun _ => 0)))), (u3865 0, .inl (cyI, 270, .inl (fun _ => 0))), (u3865 1, .inl (cyI, 31, .inl (fun _ => 0))), (u3865 2, .inl (cyI, 6, .inl (fun _ => 0))), (q3835, .inr (1, [.ref q3854, .ref q3855, .ref q3856, .ref q3857, .int 0, .int 0, .int 0, .int 0, .int 2, .int 0, .int 0])), (q3857, .inr (0, [.ref (u3865 0), .ref (u3865 1), .ref (u3865 2), .int 0]))] H := hP
  have hD : va_D A [(q3854, .inl (cyI, 6, .inl (fun _ => 0))), (q3855, .inl (cyJ, 8, .inr (.inl (fun _ => 0)))), (q3856, .inl (cyJ, 4, .inr (.inl (fun _ => 0)))), (u3865 0, .inl (cyI, 270, .inl (fun _ => 0))), (u3865 1, .inl (cyI, 31, .inl (fun _ => 0))), (u3865 2, .inl (cyI, 6, .inl (fun _ => 0))), (q3835, .inr (1, [.ref q3854, .ref q3855, .ref q3856, .ref q3857, .int 0, .int 0, .int 0, .int 0, .int 2, .int 0, .int 0])), (q3857, .inr (0, [.ref (u3865 0), .ref (u3865 1), .ref (u3865 2), .int 0]))] := hD
  exact W.vret hx hb hr (fun t ht hW => ⟨⟨(fun k => match k with | 0 => q3854 | 1 => q3855 | 2 => q3856 | 3 => u3865 0 | 4 => u3865 1 | 5 => u3865 2 | _ => q3857), rfl, trivial, cE.of ht hP hD [6, 0, 1, 2, 3, 4, 5, 7] (by decide) rfl⟩, hS.F ht⟩) hS.2.2 dX1_init_42
def wo_k_X2_init : List Cond := [.methodLink RX2 3 objectInit, .instanceMethod objectInit, .code objectInit ⟨#[0xb1]⟩ 1 none, .fieldLink RX2 9 "ReplicaChain$Reader" "faultPlace" "I", .fieldLink RX2 15 "ReplicaChain$Reader" "text" "[B", .fieldLink RX2 19 "ReplicaChain$Reader" "plan" "LReplicaChain$Plan;"]
def wq_k_X2_init : List Cond := .code yX2_init cX2_init 3 none :: (wo_k_X2_init ++ (wsX20 ++ []))
theorem gd_k_X2_init : Gd wq_k_X2_init := gd_c (gd_a (gd_o (by decide +kernel)) (gd_a gd_u gd_0))
abbrev wc_k_X2_init (cyB cyI cyJ cyZ cyO : ClassId) (q3874 : Nat) (q3795 : Nat) (q3835 : Nat) : va_W := [(q3874, .inr (2, [.null, .int 0, .int 0, .null, .int 0, .int 0, .int 0, .long 0, .int 0, .int 0, .int 0]))]
set_option maxHeartbeats 4000000 in
set_option maxRecDepth 100000 in
theorem k_X2_init (l : Launch) (dC : Nat → ClassId) (dI : Nat → Nat → Nat) (cyB cyI cyJ cyZ cyO : ClassId) (q3874 : Nat) (q3795 : Nat) (q3835 : Nat) (sz : Nat) : Met l yX2_init wq_k_X2_init ({ frames := 1, cells := 0, slots := 0, locals := 20 }) (va_Pc [.ref q3874, .ref q3795, .ref q3835] (cB (dC, dI) (kT cyB cyI cyJ cyZ cyO) (wc_k_X2_init cyB cyI cyJ cyZ cyO q3874 q3795 q3835) sz)) (va_Qv (fun _ => True) (fun (u : Unit) t => cE (dC, dI) (va_A (wc_k_X2_init cyB cyI cyJ cyZ cyO q3874 q3795 q3835) sz) ([(q3874, .inr (2, [.ref q3795, .int 0, .int 0, .ref q3835, .int 0, .int 0, .int 0, .long 0, .int 0, .int 0, .int (-1)]))]) t.heap) (va_A (wc_k_X2_init cyB cyI cyJ cyZ cyO q3874 q3795 q3835) sz)) 0 0 (va_A (wc_k_X2_init cyB cyI cyJ cyZ cyO q3874 q3795 q3835) sz) := by
  refine Met.ofW (cc := cX2_init) (maxL := 3) (ret := none) (by decide) rfl ?_
  intro p e s m args below meth c s₁ B hml hv
  obtain ⟨rfl, hsz, hP, hKN, hD0⟩ := hv
  have hx := B.exec
  have hb := B.bytes
  have hr := B.returns
  have hts := atoms_spec (ws := wq_k_X2_init) B.pre
  have hown : s.vm.findClass RX2 = some m.cls := findClass_of_methodNamed B.named
  have hlocks := B.notSynchronized
  have hin : meth.name = "<init>" := (name_of_methodNamed B.named B.method).1
  have hK := hKN.1
  have hfix : CallFix p m c cX2_init 3 s [.ref q3874, .ref q3795, .ref q3835].toArray wq_k_X2_init RX2 := ⟨hx, hb, hml, hown, hts⟩
  have hi2 : ∀ w ∈ wsX20, w ∈ wq_k_X2_init := (sb_c sb_l)
  subst hsz
  have hD := hD0.self (sz := s.heap.size)
  generalize hAe : va_A (wc_k_X2_init cyB cyI cyJ cyZ cyO q3874 q3795 q3835) s.heap.size = A at hD ⊢
  have hA : ∀ q : Nat, s.heap.size ≤ q → A q := fun q h => by rw [← hAe]; exact Or.inr h
  have hS : va_S A s.heap s.heap [] := va_S.rf
  have hl := lv_entry ([.ref q3874, .ref q3795, .ref q3835]) (n := 3) (Nat.le_of_ble_eq_true rfl)
  rw [lg_entry_eq]
  generalize (lg_sl ([.ref q3874, .ref q3795, .ref q3835]) ++ List.replicate (3 - (lg_sl ([.ref q3874, .ref q3795, .ref q3835])).length) Slot.unset).toArray = ls at hl ⊢
  have hl : lv_has ls 3 [(0, .ref q3874), (1, .ref q3795), (2, .ref q3835)] := hl
  refine lv_aload_n hx hb dX2_init_0 rfl (lv_at hl 0 rfl) ?_
  refine W.objInit hx hb hown (hts _ (ow_m (k := 0) rfl)) (hts _ (ow_m (k := 1) rfl)) (hts _ (ow_m (k := 2) rfl)) rfl (by rw [hml]; exact hl.1) rfl dX2_init_1 (Nat.le_of_ble_eq_true rfl) (Nat.le_of_ble_eq_true rfl) ?_
  refine W.eq (g2 := F0 m 4 ls []) rfl ?_
  refine lv_aload_n hx hb dX2_init_4 rfl (lv_at hl 0 rfl) ?_
  refine lv_iconst (v := (-1)) hx hb dX2_init_5 (by decide) ?_
  refine va_put (D := (dC, dI)) (ci := 2) (v := .int (-1)) (ty := .int) (C := RX2) (T := TX2) (N := 11) hx hb hts hi2 tyX2 tyX2_ok nmX2 hown hK hP hD hS 0 rfl rfl 10 (by decide) (hts _ (ow_m (k := 3) rfl)) (fun _ h9 => h9) rfl (by decide +kernel) rfl rfl (Nat.le_of_ble_eq_true rfl) dX2_init_6 (fun H locs hP hD hS => ?_)
  have hP : va_P (dC, dI) vwCl [(q3874, .inr (2, [.null, .int 0, .int 0, .null, .int 0, .int 0, .int 0, .long 0, .int 0, .int 0, .int (-1)]))] H := hP
  have hD : va_D A [(q3874, .inr (2, [.null, .int 0, .int 0, .null, .int 0, .int 0, .int 0, .long 0, .int 0, .int 0, .int (-1)]))] := hD
  refine lv_aload_n hx hb dX2_init_9 rfl (lv_at hl 0 rfl) ?_
  refine lv_aload_n hx hb dX2_init_10 rfl (lv_at hl 1 rfl) ?_
  refine va_putF (D := (dC, dI)) (ci := 2) (v := .ref q3795) (ty := .array .byte) (C := RX2) (T := TX2) (N := 11) hx hb hts hi2 tyX2 tyX2_ok nmX2 hown hK hP hD hS 0 rfl rfl 0 (by decide) (hts _ (ow_m (k := 4) rfl)) (fun _ h9 => h9) rfl hin rfl (by decide +kernel) rfl rfl (Nat.le_of_ble_eq_true rfl) dX2_init_11 (fun H locs hP hD hS => ?_)
  have hP : va_P (dC, dI) vwCl [(q3874, .inr (2, [.ref q3795, .int 0, .int 0, .null, .int 0, .int 0, .int 0, .long 0, .int 0, .int 0, .int (-1)]))] H := hP
  have hD : va_D A [(q3874, .inr (2, [.ref q3795, .int 0, .int 0, .null, .int 0, .int 0, .int 0, .long 0, .int 0, .int 0, .int (-1)]))] := hD
  refine lv_aload_n hx hb dX2_init_14 rfl (lv_at hl 0 rfl) ?_
  refine lv_aload_n hx hb dX2_init_15 rfl (lv_at hl 2 rfl) ?_
  refine va_put (D := (dC, dI)) (ci := 2) (v := .ref q3835) (ty := .object "ReplicaChain$Plan") (C := RX2) (T := TX2) (N := 11) hx hb hts hi2 tyX2 tyX2_ok nmX2 hown hK hP hD hS 0 rfl rfl 3 (by decide) (hts _ (ow_m (k := 5) rfl)) (fun _ h9 => h9) rfl (by decide +kernel) rfl rfl (Nat.le_of_ble_eq_true rfl) dX2_init_16 (fun H locs hP hD hS => ?_)
  have hP : va_P (dC, dI) vwCl [(q3874, .inr (2, [.ref q3795, .int 0, .int 0, .ref q3835, .int 0, .int 0, .int 0, .long 0, .int 0, .int 0, .int (-1)]))] H := hP
  have hD : va_D A [(q3874, .inr (2, [.ref q3795, .int 0, .int 0, .ref q3835, .int 0, .int 0, .int 0, .long 0, .int 0, .int 0, .int (-1)]))] := hD
  exact W.vret hx hb hr (fun t ht hW => ⟨⟨(), rfl, trivial, cE.of ht hP hD [0] (by decide) rfl⟩, hS.F ht⟩) hS.2.2 dX2_init_19
def wo_k_X3_init : List Cond := [.methodLink RX3 3 objectInit, .instanceMethod objectInit, .code objectInit ⟨#[0xb1]⟩ 1 none, .fieldLink RX3 9 "ReplicaChain$Rules" "plan" "LReplicaChain$Plan;"]
def wq_k_X3_init : List Cond := .code yX3_init cX3_init 2 none :: (wo_k_X3_init ++ (wsX30 ++ []))
theorem gd_k_X3_init : Gd wq_k_X3_init := gd_c (gd_a (gd_o (by decide +kernel)) (gd_a gd_u gd_0))
abbrev wc_k_X3_init (cyB cyI cyJ cyZ cyO : ClassId) (q3877 : Nat) (q3796 : Nat) : va_W := [(q3877, .inr (3, [.null, .int 0]))]
set_option maxHeartbeats 4000000 in
set_option maxRecDepth 100000 in
theorem k_X3_init (l : Launch) (dC : Nat → ClassId) (dI : Nat → Nat → Nat) (cyB cyI cyJ cyZ cyO : ClassId) (q3877 : Nat) (q3796 : Nat) (sz : Nat) : Met l yX3_init wq_k_X3_init ({ frames := 1, cells := 0, slots := 0, locals := 20 }) (va_Pc [.ref q3877, .ref q3796] (cB (dC, dI) (kT cyB cyI cyJ cyZ cyO) (wc_k_X3_init cyB cyI cyJ cyZ cyO q3877 q3796) sz)) (va_Qv (fun _ => True) (fun (u : Unit) t => cE (dC, dI) (va_A (wc_k_X3_init cyB cyI cyJ cyZ cyO q3877 q3796) sz) ([(q3877, .inr (3, [.ref q3796, .int 0]))]) t.heap) (va_A (wc_k_X3_init cyB cyI cyJ cyZ cyO q3877 q3796) sz)) 0 0 (va_A (wc_k_X3_init cyB cyI cyJ cyZ cyO q3877 q3796) sz) := by
  refine Met.ofW (cc := cX3_init) (maxL := 2) (ret := none) (by decide) rfl ?_
  intro p e s m args below meth c s₁ B hml hv
  obtain ⟨rfl, hsz, hP, hKN, hD0⟩ := hv
  have hx := B.exec
  have hb := B.bytes
  have hr := B.returns
  have hts := atoms_spec (ws := wq_k_X3_init) B.pre
  have hown : s.vm.findClass RX3 = some m.cls := findClass_of_methodNamed B.named
  have hlocks := B.notSynchronized
  have hin : meth.name = "<init>" := (name_of_methodNamed B.named B.method).1
  have hK := hKN.1
  have hfix : CallFix p m c cX3_init 2 s [.ref q3877, .ref q3796].toArray wq_k_X3_init RX3 := ⟨hx, hb, hml, hown, hts⟩
  have hi3 : ∀ w ∈ wsX30, w ∈ wq_k_X3_init := (sb_c sb_l)
  subst hsz
  have hD := hD0.self (sz := s.heap.size)
  generalize hAe : va_A (wc_k_X3_init cyB cyI cyJ cyZ cyO q3877 q3796) s.heap.size = A at hD ⊢
  have hA : ∀ q : Nat, s.heap.size ≤ q → A q := fun q h => by rw [← hAe]; exact Or.inr h
  have hS : va_S A s.heap s.heap [] := va_S.rf
  have hl := lv_entry ([.ref q3877, .ref q3796]) (n := 2) (Nat.le_of_ble_eq_true rfl)
  rw [lg_entry_eq]
  generalize (lg_sl ([.ref q3877, .ref q3796]) ++ List.replicate (2 - (lg_sl ([.ref q3877, .ref q3796])).length) Slot.unset).toArray = ls at hl ⊢
  have hl : lv_has ls 2 [(0, .ref q3877), (1, .ref q3796)] := hl
  refine lv_aload_n hx hb dX3_init_0 rfl (lv_at hl 0 rfl) ?_
  refine W.objInit hx hb hown (hts _ (ow_m (k := 0) rfl)) (hts _ (ow_m (k := 1) rfl)) (hts _ (ow_m (k := 2) rfl)) rfl (by rw [hml]; exact hl.1) rfl dX3_init_1 (Nat.le_of_ble_eq_true rfl) (Nat.le_of_ble_eq_true rfl) ?_
  refine W.eq (g2 := F0 m 4 ls []) rfl ?_
  refine lv_aload_n hx hb dX3_init_4 rfl (lv_at hl 0 rfl) ?_
  refine lv_aload_n hx hb dX3_init_5 rfl (lv_at hl 1 rfl) ?_
  refine va_put (D := (dC, dI)) (ci := 3) (v := .ref q3796) (ty := .object "ReplicaChain$Plan") (C := RX3) (T := TX3) (N := 2) hx hb hts hi3 tyX3 tyX3_ok nmX3 hown hK hP hD hS 0 rfl rfl 0 (by decide) (hts _ (ow_m (k := 3) rfl)) (fun _ h9 => h9) rfl (by decide +kernel) rfl rfl (Nat.le_of_ble_eq_true rfl) dX3_init_6 (fun H locs hP hD hS => ?_)
  have hP : va_P (dC, dI) vwCl [(q3877, .inr (3, [.ref q3796, .int 0]))] H := hP
  have hD : va_D A [(q3877, .inr (3, [.ref q3796, .int 0]))] := hD
  exact W.vret hx hb hr (fun t ht hW => ⟨⟨(), rfl, trivial, cE.of ht hP hD [0] (by decide) rfl⟩, hS.F ht⟩) hS.2.2 dX3_init_9
def wo_k_X5_init_v9 : List Cond := [.methodLink RX5 3 objectInit, .instanceMethod objectInit, .code objectInit ⟨#[0xb1]⟩ 1 none, .arrayClass .int, .fieldLink RX5 9 "ReplicaChain$State" "row" "[I", .fieldLink RX5 15 "ReplicaChain$State" "has" "[I", .fieldLink RX5 18 "ReplicaChain$State" "clean" "[I", .fieldLink RX5 21 "ReplicaChain$State" "downDue" "[I", .fieldLink RX5 24 "ReplicaChain$State" "upDue" "[I", .fieldLink RX5 27 "ReplicaChain$State" "keys" "[I", .fieldLink RX5 30 "ReplicaChain$State" "values" "[I", .fieldLink RX5 33 "ReplicaChain$State" "copier" "I"]
def wq_k_X5_init_v9 : List Cond := .code yX5_init cX5_init 1 none :: (wo_k_X5_init_v9 ++ (wsX50 ++ []))
theorem gd_k_X5_init_v9 : Gd wq_k_X5_init_v9 := gd_c (gd_a (gd_o (by decide +kernel)) (gd_a gd_u gd_0))
abbrev wc_k_X5_init_v9 (cyB cyI cyJ cyZ cyO : ClassId) (q3881 : Nat) : va_W := [(q3881, .inr (5, [.null, .null, .null, .null, .null, .null, .null, .int 0, .int 0, .int 0, .int 0, .int 0, .int 0]))]
set_option maxHeartbeats 4000000 in
set_option maxRecDepth 100000 in
theorem k_X5_init_v9 (l : Launch) (dC : Nat → ClassId) (dI : Nat → Nat → Nat) (cyB cyI cyJ cyZ cyO : ClassId) (q3881 : Nat) (sz : Nat) : Met l yX5_init wq_k_X5_init_v9 ({ frames := 1, cells := 7, slots := 760, locals := 20 }) (va_Pc [.ref q3881] (cB (dC, dI) (kT cyB cyI cyJ cyZ cyO) (wc_k_X5_init_v9 cyB cyI cyJ cyZ cyO q3881) sz)) (va_Qv (fun _ => True) (fun (u : Nat → Nat) t => cE (dC, dI) (va_A (wc_k_X5_init_v9 cyB cyI cyJ cyZ cyO q3881) sz) ([(q3881, .inr (5, [.ref (u 0), .ref (u 1), .ref (u 2), .ref (u 3), .ref (u 4), .ref (u 5), .ref (u 6), .int 0, .int (-1), .int 0, .int 0, .int 0, .int 0])), (u 0, .inl (cyI, 6, .inl (fun _ => 0))), (u 1, .inl (cyI, 8, .inl (fun _ => 0))), (u 2, .inl (cyI, 8, .inl (fun _ => 0))), (u 3, .inl (cyI, 328, .inl (fun _ => 0))), (u 4, .inl (cyI, 328, .inl (fun _ => 0))), (u 5, .inl (cyI, 41, .inl (fun _ => 0))), (u 6, .inl (cyI, 41, .inl (fun _ => 0)))]) t.heap) (va_A (wc_k_X5_init_v9 cyB cyI cyJ cyZ cyO q3881) sz)) 7 760 (va_A (wc_k_X5_init_v9 cyB cyI cyJ cyZ cyO q3881) sz) := by
  refine Met.ofW (cc := cX5_init) (maxL := 1) (ret := none) (by decide) rfl ?_
  intro p e s m args below meth c s₁ B hml hv
  obtain ⟨rfl, hsz, hP, hKN, hD0⟩ := hv
  have hx := B.exec
  have hb := B.bytes
  have hr := B.returns
  have hts := atoms_spec (ws := wq_k_X5_init_v9) B.pre
  have hown : s.vm.findClass RX5 = some m.cls := findClass_of_methodNamed B.named
  have hlocks := B.notSynchronized
  have hin : meth.name = "<init>" := (name_of_methodNamed B.named B.method).1
  have hK := hKN.1
  have hfix : CallFix p m c cX5_init 1 s [.ref q3881].toArray wq_k_X5_init_v9 RX5 := ⟨hx, hb, hml, hown, hts⟩
  have hi5 : ∀ w ∈ wsX50, w ∈ wq_k_X5_init_v9 := (sb_c sb_l)
  subst hsz
  have hD := hD0.self (sz := s.heap.size)
  generalize hAe : va_A (wc_k_X5_init_v9 cyB cyI cyJ cyZ cyO q3881) s.heap.size = A at hD ⊢
  have hA : ∀ q : Nat, s.heap.size ≤ q → A q := fun q h => by rw [← hAe]; exact Or.inr h
  have hS : va_S A s.heap s.heap [] := va_S.rf
  have hl := lv_entry ([.ref q3881]) (n := 1) (Nat.le_of_ble_eq_true rfl)
  rw [lg_entry_eq]
  generalize (lg_sl ([.ref q3881]) ++ List.replicate (1 - (lg_sl ([.ref q3881])).length) Slot.unset).toArray = ls at hl ⊢
  have hl : lv_has ls 1 [(0, .ref q3881)] := hl
  refine lv_aload_n hx hb dX5_init_0 rfl (lv_at hl 0 rfl) ?_
  refine W.objInit hx hb hown (hts _ (ow_m (k := 0) rfl)) (hts _ (ow_m (k := 1) rfl)) (hts _ (ow_m (k := 2) rfl)) rfl (by rw [hml]; exact hl.1) rfl dX5_init_1 (Nat.le_of_ble_eq_true rfl) (Nat.le_of_ble_eq_true rfl) ?_
  refine W.eq (g2 := F0 m 4 ls []) rfl ?_
  refine lv_aload_n hx hb dX5_init_4 rfl (lv_at hl 0 rfl) ?_
  refine lv_bipush (v := 6) hx hb dX5_init_5 (by decide) ?_
  refine g_newa (a0 := (6, .inl (fun _ => 0))) hx hb (hts _ (ow_m (k := 3) rfl)) rfl hKN hP hD hS hA 1 rfl rfl (fun _ => rfl) (by decide) (by decide) (by decide) (Nat.le_of_ble_eq_true rfl) (Nat.le_of_ble_eq_true rfl) dX5_init_7 (fun q3889 H hP hD hS => ?_)
  have hP : va_P (dC, dI) vwCl [(q3881, .inr (5, [.null, .null, .null, .null, .null, .null, .null, .int 0, .int 0, .int 0, .int 0, .int 0, .int 0])), (q3889, .inl (cyI, 6, .inl (fun _ => 0)))] H := hP
  have hD : va_D A [(q3881, .inr (5, [.null, .null, .null, .null, .null, .null, .null, .int 0, .int 0, .int 0, .int 0, .int 0, .int 0])), (q3889, .inl (cyI, 6, .inl (fun _ => 0)))] := hD
  refine W.widen (k := 1) (n := 6) (by omega) (by omega) ?_
  refine va_putF (D := (dC, dI)) (ci := 5) (v := .ref q3889) (ty := .array .int) (C := RX5) (T := TX5) (N := 13) hx hb hts hi5 tyX5 tyX5_ok nmX5 hown hK hP hD hS 0 rfl rfl 0 (by decide) (hts _ (ow_m (k := 4) rfl)) (fun _ h9 => h9) rfl hin rfl (by decide +kernel) rfl rfl (Nat.le_of_ble_eq_true rfl) dX5_init_9 (fun H locs hP hD hS => ?_)
  have hP : va_P (dC, dI) vwCl [(q3881, .inr (5, [.ref q3889, .null, .null, .null, .null, .null, .null, .int 0, .int 0, .int 0, .int 0, .int 0, .int 0])), (q3889, .inl (cyI, 6, .inl (fun _ => 0)))] H := hP
  have hD : va_D A [(q3881, .inr (5, [.ref q3889, .null, .null, .null, .null, .null, .null, .int 0, .int 0, .int 0, .int 0, .int 0, .int 0])), (q3889, .inl (cyI, 6, .inl (fun _ => 0)))] := hD
  refine lv_aload_n hx hb dX5_init_12 rfl (lv_at hl 0 rfl) ?_
  refine lv_bipush (v := 8) hx hb dX5_init_13 (by decide) ?_
  refine g_newa (a0 := (8, .inl (fun _ => 0))) hx hb (hts _ (ow_m (k := 3) rfl)) rfl hKN hP hD hS hA 1 rfl rfl (fun _ => rfl) (by decide) (by decide) (by decide) (Nat.le_of_ble_eq_true rfl) (Nat.le_of_ble_eq_true rfl) dX5_init_15 (fun q3890 H hP hD hS => ?_)
  have hP : va_P (dC, dI) vwCl [(q3881, .inr (5, [.ref q3889, .null, .null, .null, .null, .null, .null, .int 0, .int 0, .int 0, .int 0, .int 0, .int 0])), (q3889, .inl (cyI, 6, .inl (fun _ => 0))), (q3890, .inl (cyI, 8, .inl (fun _ => 0)))] H := hP
  have hD : va_D A [(q3881, .inr (5, [.ref q3889, .null, .null, .null, .null, .null, .null, .int 0, .int 0, .int 0, .int 0, .int 0, .int 0])), (q3889, .inl (cyI, 6, .inl (fun _ => 0))), (q3890, .inl (cyI, 8, .inl (fun _ => 0)))] := hD
  refine W.widen (k := 2) (n := 14) (by omega) (by omega) ?_
  refine va_putF (D := (dC, dI)) (ci := 5) (v := .ref q3890) (ty := .array .int) (C := RX5) (T := TX5) (N := 13) hx hb hts hi5 tyX5 tyX5_ok nmX5 hown hK hP hD hS 0 rfl rfl 1 (by decide) (hts _ (ow_m (k := 5) rfl)) (fun _ h9 => h9) rfl hin rfl (by decide +kernel) rfl rfl (Nat.le_of_ble_eq_true rfl) dX5_init_17 (fun H locs hP hD hS => ?_)
  have hP : va_P (dC, dI) vwCl [(q3881, .inr (5, [.ref q3889, .ref q3890, .null, .null, .null, .null, .null, .int 0, .int 0, .int 0, .int 0, .int 0, .int 0])), (q3889, .inl (cyI, 6, .inl (fun _ => 0))), (q3890, .inl (cyI, 8, .inl (fun _ => 0)))] H := hP
  have hD : va_D A [(q3881, .inr (5, [.ref q3889, .ref q3890, .null, .null, .null, .null, .null, .int 0, .int 0, .int 0, .int 0, .int 0, .int 0])), (q3889, .inl (cyI, 6, .inl (fun _ => 0))), (q3890, .inl (cyI, 8, .inl (fun _ => 0)))] := hD
  refine lv_aload_n hx hb dX5_init_20 rfl (lv_at hl 0 rfl) ?_
  refine lv_bipush (v := 8) hx hb dX5_init_21 (by decide) ?_
  refine g_newa (a0 := (8, .inl (fun _ => 0))) hx hb (hts _ (ow_m (k := 3) rfl)) rfl hKN hP hD hS hA 1 rfl rfl (fun _ => rfl) (by decide) (by decide) (by decide) (Nat.le_of_ble_eq_true rfl) (Nat.le_of_ble_eq_true rfl) dX5_init_23 (fun q3891 H hP hD hS => ?_)
  have hP : va_P (dC, dI) vwCl [(q3881, .inr (5, [.ref q3889, .ref q3890, .null, .null, .null, .null, .null, .int 0, .int 0, .int 0, .int 0, .int 0, .int 0])), (q3889, .inl (cyI, 6, .inl (fun _ => 0))), (q3890, .inl (cyI, 8, .inl (fun _ => 0))), (q3891, .inl (cyI, 8, .inl (fun _ => 0)))] H := hP
  have hD : va_D A [(q3881, .inr (5, [.ref q3889, .ref q3890, .null, .null, .null, .null, .null, .int 0, .int 0, .int 0, .int 0, .int 0, .int 0])), (q3889, .inl (cyI, 6, .inl (fun _ => 0))), (q3890, .inl (cyI, 8, .inl (fun _ => 0))), (q3891, .inl (cyI, 8, .inl (fun _ => 0)))] := hD
  refine W.widen (k := 3) (n := 22) (by omega) (by omega) ?_
  refine va_putF (D := (dC, dI)) (ci := 5) (v := .ref q3891) (ty := .array .int) (C := RX5) (T := TX5) (N := 13) hx hb hts hi5 tyX5 tyX5_ok nmX5 hown hK hP hD hS 0 rfl rfl 2 (by decide) (hts _ (ow_m (k := 6) rfl)) (fun _ h9 => h9) rfl hin rfl (by decide +kernel) rfl rfl (Nat.le_of_ble_eq_true rfl) dX5_init_25 (fun H locs hP hD hS => ?_)
  have hP : va_P (dC, dI) vwCl [(q3881, .inr (5, [.ref q3889, .ref q3890, .ref q3891, .null, .null, .null, .null, .int 0, .int 0, .int 0, .int 0, .int 0, .int 0])), (q3889, .inl (cyI, 6, .inl (fun _ => 0))), (q3890, .inl (cyI, 8, .inl (fun _ => 0))), (q3891, .inl (cyI, 8, .inl (fun _ => 0)))] H := hP
  have hD : va_D A [(q3881, .inr (5, [.ref q3889, .ref q3890, .ref q3891, .null, .null, .null, .null, .int 0, .int 0, .int 0, .int 0, .int 0, .int 0])), (q3889, .inl (cyI, 6, .inl (fun _ => 0))), (q3890, .inl (cyI, 8, .inl (fun _ => 0))), (q3891, .inl (cyI, 8, .inl (fun _ => 0)))] := hD
  refine lv_aload_n hx hb dX5_init_28 rfl (lv_at hl 0 rfl) ?_
  refine lv_sipush (v := 328) hx hb dX5_init_29 (by decide) ?_
  refine g_newa (a0 := (328, .inl (fun _ => 0))) hx hb (hts _ (ow_m (k := 3) rfl)) rfl hKN hP hD hS hA 1 rfl rfl (fun _ => rfl) (by decide) (by decide) (by decide) (Nat.le_of_ble_eq_true rfl) (Nat.le_of_ble_eq_true rfl) dX5_init_32 (fun q3892 H hP hD hS => ?_)
  have hP : va_P (dC, dI) vwCl [(q3881, .inr (5, [.ref q3889, .ref q3890, .ref q3891, .null, .null, .null, .null, .int 0, .int 0, .int 0, .int 0, .int 0, .int 0])), (q3889, .inl (cyI, 6, .inl (fun _ => 0))), (q3890, .inl (cyI, 8, .inl (fun _ => 0))), (q3891, .inl (cyI, 8, .inl (fun _ => 0))), (q3892, .inl (cyI, 328, .inl (fun _ => 0)))] H := hP
  have hD : va_D A [(q3881, .inr (5, [.ref q3889, .ref q3890, .ref q3891, .null, .null, .null, .null, .int 0, .int 0, .int 0, .int 0, .int 0, .int 0])), (q3889, .inl (cyI, 6, .inl (fun _ => 0))), (q3890, .inl (cyI, 8, .inl (fun _ => 0))), (q3891, .inl (cyI, 8, .inl (fun _ => 0))), (q3892, .inl (cyI, 328, .inl (fun _ => 0)))] := hD
  refine W.widen (k := 4) (n := 350) (by omega) (by omega) ?_
  refine va_putF (D := (dC, dI)) (ci := 5) (v := .ref q3892) (ty := .array .int) (C := RX5) (T := TX5) (N := 13) hx hb hts hi5 tyX5 tyX5_ok nmX5 hown hK hP hD hS 0 rfl rfl 3 (by decide) (hts _ (ow_m (k := 7) rfl)) (fun _ h9 => h9) rfl hin rfl (by decide +kernel) rfl rfl (Nat.le_of_ble_eq_true rfl) dX5_init_34 (fun H locs hP hD hS => ?_)
  have hP : va_P (dC, dI) vwCl [(q3881, .inr (5, [.ref q3889, .ref q3890, .ref q3891, .ref q3892, .null, .null, .null, .int 0, .int 0, .int 0, .int 0, .int 0, .int 0])), (q3889, .inl (cyI, 6, .inl (fun _ => 0))), (q3890, .inl (cyI, 8, .inl (fun _ => 0))), (q3891, .inl (cyI, 8, .inl (fun _ => 0))), (q3892, .inl (cyI, 328, .inl (fun _ => 0)))] H := hP
  have hD : va_D A [(q3881, .inr (5, [.ref q3889, .ref q3890, .ref q3891, .ref q3892, .null, .null, .null, .int 0, .int 0, .int 0, .int 0, .int 0, .int 0])), (q3889, .inl (cyI, 6, .inl (fun _ => 0))), (q3890, .inl (cyI, 8, .inl (fun _ => 0))), (q3891, .inl (cyI, 8, .inl (fun _ => 0))), (q3892, .inl (cyI, 328, .inl (fun _ => 0)))] := hD
  refine lv_aload_n hx hb dX5_init_37 rfl (lv_at hl 0 rfl) ?_
  refine lv_sipush (v := 328) hx hb dX5_init_38 (by decide) ?_
  refine g_newa (a0 := (328, .inl (fun _ => 0))) hx hb (hts _ (ow_m (k := 3) rfl)) rfl hKN hP hD hS hA 1 rfl rfl (fun _ => rfl) (by decide) (by decide) (by decide) (Nat.le_of_ble_eq_true rfl) (Nat.le_of_ble_eq_true rfl) dX5_init_41 (fun q3893 H hP hD hS => ?_)
  have hP : va_P (dC, dI) vwCl [(q3881, .inr (5, [.ref q3889, .ref q3890, .ref q3891, .ref q3892, .null, .null, .null, .int 0, .int 0, .int 0, .int 0, .int 0, .int 0])), (q3889, .inl (cyI, 6, .inl (fun _ => 0))), (q3890, .inl (cyI, 8, .inl (fun _ => 0))), (q3891, .inl (cyI, 8, .inl (fun _ => 0))), (q3892, .inl (cyI, 328, .inl (fun _ => 0))), (q3893, .inl (cyI, 328, .inl (fun _ => 0)))] H := hP
  have hD : va_D A [(q3881, .inr (5, [.ref q3889, .ref q3890, .ref q3891, .ref q3892, .null, .null, .null, .int 0, .int 0, .int 0, .int 0, .int 0, .int 0])), (q3889, .inl (cyI, 6, .inl (fun _ => 0))), (q3890, .inl (cyI, 8, .inl (fun _ => 0))), (q3891, .inl (cyI, 8, .inl (fun _ => 0))), (q3892, .inl (cyI, 328, .inl (fun _ => 0))), (q3893, .inl (cyI, 328, .inl (fun _ => 0)))] := hD
  refine W.widen (k := 5) (n := 678) (by omega) (by omega) ?_
  refine va_putF (D := (dC, dI)) (ci := 5) (v := .ref q3893) (ty := .array .int) (C := RX5) (T := TX5) (N := 13) hx hb hts hi5 tyX5 tyX5_ok nmX5 hown hK hP hD hS 0 rfl rfl 4 (by decide) (hts _ (ow_m (k := 8) rfl)) (fun _ h9 => h9) rfl hin rfl (by decide +kernel) rfl rfl (Nat.le_of_ble_eq_true rfl) dX5_init_43 (fun H locs hP hD hS => ?_)
  have hP : va_P (dC, dI) vwCl [(q3881, .inr (5, [.ref q3889, .ref q3890, .ref q3891, .ref q3892, .ref q3893, .null, .null, .int 0, .int 0, .int 0, .int 0, .int 0, .int 0])), (q3889, .inl (cyI, 6, .inl (fun _ => 0))), (q3890, .inl (cyI, 8, .inl (fun _ => 0))), (q3891, .inl (cyI, 8, .inl (fun _ => 0))), (q3892, .inl (cyI, 328, .inl (fun _ => 0))), (q3893, .inl (cyI, 328, .inl (fun _ => 0)))] H := hP
  have hD : va_D A [(q3881, .inr (5, [.ref q3889, .ref q3890, .ref q3891, .ref q3892, .ref q3893, .null, .null, .int 0, .int 0, .int 0, .int 0, .int 0, .int 0])), (q3889, .inl (cyI, 6, .inl (fun _ => 0))), (q3890, .inl (cyI, 8, .inl (fun _ => 0))), (q3891, .inl (cyI, 8, .inl (fun _ => 0))), (q3892, .inl (cyI, 328, .inl (fun _ => 0))), (q3893, .inl (cyI, 328, .inl (fun _ => 0)))] := hD
  refine lv_aload_n hx hb dX5_init_46 rfl (lv_at hl 0 rfl) ?_
  refine lv_bipush (v := 41) hx hb dX5_init_47 (by decide) ?_
  refine g_newa (a0 := (41, .inl (fun _ => 0))) hx hb (hts _ (ow_m (k := 3) rfl)) rfl hKN hP hD hS hA 1 rfl rfl (fun _ => rfl) (by decide) (by decide) (by decide) (Nat.le_of_ble_eq_true rfl) (Nat.le_of_ble_eq_true rfl) dX5_init_49 (fun q3894 H hP hD hS => ?_)
  have hP : va_P (dC, dI) vwCl [(q3881, .inr (5, [.ref q3889, .ref q3890, .ref q3891, .ref q3892, .ref q3893, .null, .null, .int 0, .int 0, .int 0, .int 0, .int 0, .int 0])), (q3889, .inl (cyI, 6, .inl (fun _ => 0))), (q3890, .inl (cyI, 8, .inl (fun _ => 0))), (q3891, .inl (cyI, 8, .inl (fun _ => 0))), (q3892, .inl (cyI, 328, .inl (fun _ => 0))), (q3893, .inl (cyI, 328, .inl (fun _ => 0))), (q3894, .inl (cyI, 41, .inl (fun _ => 0)))] H := hP
  have hD : va_D A [(q3881, .inr (5, [.ref q3889, .ref q3890, .ref q3891, .ref q3892, .ref q3893, .null, .null, .int 0, .int 0, .int 0, .int 0, .int 0, .int 0])), (q3889, .inl (cyI, 6, .inl (fun _ => 0))), (q3890, .inl (cyI, 8, .inl (fun _ => 0))), (q3891, .inl (cyI, 8, .inl (fun _ => 0))), (q3892, .inl (cyI, 328, .inl (fun _ => 0))), (q3893, .inl (cyI, 328, .inl (fun _ => 0))), (q3894, .inl (cyI, 41, .inl (fun _ => 0)))] := hD
  refine W.widen (k := 6) (n := 719) (by omega) (by omega) ?_
  refine va_putF (D := (dC, dI)) (ci := 5) (v := .ref q3894) (ty := .array .int) (C := RX5) (T := TX5) (N := 13) hx hb hts hi5 tyX5 tyX5_ok nmX5 hown hK hP hD hS 0 rfl rfl 5 (by decide) (hts _ (ow_m (k := 9) rfl)) (fun _ h9 => h9) rfl hin rfl (by decide +kernel) rfl rfl (Nat.le_of_ble_eq_true rfl) dX5_init_51 (fun H locs hP hD hS => ?_)
  have hP : va_P (dC, dI) vwCl [(q3881, .inr (5, [.ref q3889, .ref q3890, .ref q3891, .ref q3892, .ref q3893, .ref q3894, .null, .int 0, .int 0, .int 0, .int 0, .int 0, .int 0])), (q3889, .inl (cyI, 6, .inl (fun _ => 0))), (q3890, .inl (cyI, 8, .inl (fun _ => 0))), (q3891, .inl (cyI, 8, .inl (fun _ => 0))), (q3892, .inl (cyI, 328, .inl (fun _ => 0))), (q3893, .inl (cyI, 328, .inl (fun _ => 0))), (q3894, .inl (cyI, 41, .inl (fun _ => 0)))] H := hP
  have hD : va_D A [(q3881, .inr (5, [.ref q3889, .ref q3890, .ref q3891, .ref q3892, .ref q3893, .ref q3894, .null, .int 0, .int 0, .int 0, .int 0, .int 0, .int 0])), (q3889, .inl (cyI, 6, .inl (fun _ => 0))), (q3890, .inl (cyI, 8, .inl (fun _ => 0))), (q3891, .inl (cyI, 8, .inl (fun _ => 0))), (q3892, .inl (cyI, 328, .inl (fun _ => 0))), (q3893, .inl (cyI, 328, .inl (fun _ => 0))), (q3894, .inl (cyI, 41, .inl (fun _ => 0)))] := hD
  refine lv_aload_n hx hb dX5_init_54 rfl (lv_at hl 0 rfl) ?_
  refine lv_bipush (v := 41) hx hb dX5_init_55 (by decide) ?_
  refine g_newa (a0 := (41, .inl (fun _ => 0))) hx hb (hts _ (ow_m (k := 3) rfl)) rfl hKN hP hD hS hA 1 rfl rfl (fun _ => rfl) (by decide) (by decide) (by decide) (Nat.le_of_ble_eq_true rfl) (Nat.le_of_ble_eq_true rfl) dX5_init_57 (fun q3895 H hP hD hS => ?_)
  have hP : va_P (dC, dI) vwCl [(q3881, .inr (5, [.ref q3889, .ref q3890, .ref q3891, .ref q3892, .ref q3893, .ref q3894, .null, .int 0, .int 0, .int 0, .int 0, .int 0, .int 0])), (q3889, .inl (cyI, 6, .inl (fun _ => 0))), (q3890, .inl (cyI, 8, .inl (fun _ => 0))), (q3891, .inl (cyI, 8, .inl (fun _ => 0))), (q3892, .inl (cyI, 328, .inl (fun _ => 0))), (q3893, .inl (cyI, 328, .inl (fun _ => 0))), (q3894, .inl (cyI, 41, .inl (fun _ => 0))), (q3895, .inl (cyI, 41, .inl (fun _ => 0)))] H := hP
  have hD : va_D A [(q3881, .inr (5, [.ref q3889, .ref q3890, .ref q3891, .ref q3892, .ref q3893, .ref q3894, .null, .int 0, .int 0, .int 0, .int 0, .int 0, .int 0])), (q3889, .inl (cyI, 6, .inl (fun _ => 0))), (q3890, .inl (cyI, 8, .inl (fun _ => 0))), (q3891, .inl (cyI, 8, .inl (fun _ => 0))), (q3892, .inl (cyI, 328, .inl (fun _ => 0))), (q3893, .inl (cyI, 328, .inl (fun _ => 0))), (q3894, .inl (cyI, 41, .inl (fun _ => 0))), (q3895, .inl (cyI, 41, .inl (fun _ => 0)))] := hD
  refine W.widen (k := 7) (n := 760) (by omega) (by omega) ?_
  refine va_putF (D := (dC, dI)) (ci := 5) (v := .ref q3895) (ty := .array .int) (C := RX5) (T := TX5) (N := 13) hx hb hts hi5 tyX5 tyX5_ok nmX5 hown hK hP hD hS 0 rfl rfl 6 (by decide) (hts _ (ow_m (k := 10) rfl)) (fun _ h9 => h9) rfl hin rfl (by decide +kernel) rfl rfl (Nat.le_of_ble_eq_true rfl) dX5_init_59 (fun H locs hP hD hS => ?_)
  have hP : va_P (dC, dI) vwCl [(q3881, .inr (5, [.ref q3889, .ref q3890, .ref q3891, .ref q3892, .ref q3893, .ref q3894, .ref q3895, .int 0, .int 0, .int 0, .int 0, .int 0, .int 0])), (q3889, .inl (cyI, 6, .inl (fun _ => 0))), (q3890, .inl (cyI, 8, .inl (fun _ => 0))), (q3891, .inl (cyI, 8, .inl (fun _ => 0))), (q3892, .inl (cyI, 328, .inl (fun _ => 0))), (q3893, .inl (cyI, 328, .inl (fun _ => 0))), (q3894, .inl (cyI, 41, .inl (fun _ => 0))), (q3895, .inl (cyI, 41, .inl (fun _ => 0)))] H := hP
  have hD : va_D A [(q3881, .inr (5, [.ref q3889, .ref q3890, .ref q3891, .ref q3892, .ref q3893, .ref q3894, .ref q3895, .int 0, .int 0, .int 0, .int 0, .int 0, .int 0])), (q3889, .inl (cyI, 6, .inl (fun _ => 0))), (q3890, .inl (cyI, 8, .inl (fun _ => 0))), (q3891, .inl (cyI, 8, .inl (fun _ => 0))), (q3892, .inl (cyI, 328, .inl (fun _ => 0))), (q3893, .inl (cyI, 328, .inl (fun _ => 0))), (q3894, .inl (cyI, 41, .inl (fun _ => 0))), (q3895, .inl (cyI, 41, .inl (fun _ => 0)))] := hD
  refine lv_aload_n hx hb dX5_init_62 rfl (lv_at hl 0 rfl) ?_
  refine lv_iconst (v := (-1)) hx hb dX5_init_63 (by decide) ?_
  refine va_put (D := (dC, dI)) (ci := 5) (v := .int (-1)) (ty := .int) (C := RX5) (T := TX5) (N := 13) hx hb hts hi5 tyX5 tyX5_ok nmX5 hown hK hP hD hS 0 rfl rfl 8 (by decide) (hts _ (ow_m (k := 11) rfl)) (fun _ h9 => h9) rfl (by decide +kernel) rfl rfl (Nat.le_of_ble_eq_true rfl) dX5_init_64 (fun H locs hP hD hS => ?_)
  have hP : va_P (dC, dI) vwCl [(q3881, .inr (5, [.ref q3889, .ref q3890, .ref q3891, .ref q3892, .ref q3893, .ref q3894, .ref q3895, .int 0, .int (-1), .int 0, .int 0, .int 0, .int 0])), (q3889, .inl (cyI, 6, .inl (fun _ => 0))), (q3890, .inl (cyI, 8, .inl (fun _ => 0))), (q3891, .inl (cyI, 8, .inl (fun _ => 0))), (q3892, .inl (cyI, 328, .inl (fun _ => 0))), (q3893, .inl (cyI, 328, .inl (fun _ => 0))), (q3894, .inl (cyI, 41, .inl (fun _ => 0))), (q3895, .inl (cyI, 41, .inl (fun _ => 0)))] H := hP
  have hD : va_D A [(q3881, .inr (5, [.ref q3889, .ref q3890, .ref q3891, .ref q3892, .ref q3893, .ref q3894, .ref q3895, .int 0, .int (-1), .int 0, .int 0, .int 0, .int 0])), (q3889, .inl (cyI, 6, .inl (fun _ => 0))), (q3890, .inl (cyI, 8, .inl (fun _ => 0))), (q3891, .inl (cyI, 8, .inl (fun _ => 0))), (q3892, .inl (cyI, 328, .inl (fun _ => 0))), (q3893, .inl (cyI, 328, .inl (fun _ => 0))), (q3894, .inl (cyI, 41, .inl (fun _ => 0))), (q3895, .inl (cyI, 41, .inl (fun _ => 0)))] := hD
  exact W.vret hx hb hr (fun t ht hW => ⟨⟨(fun k => match k with | 0 => q3889 | 1 => q3890 | 2 => q3891 | 3 => q3892 | 4 => q3893 | 5 => q3894 | _ => q3895), rfl, trivial, cE.of ht hP hD [0, 1, 2, 3, 4, 5, 6, 7] (by decide) rfl⟩, hS.F ht⟩) hS.2.2 dX5_init_67
def wo_k_X4_init : List Cond := [.methodLink RX4 3 objectInit, .instanceMethod objectInit, .code objectInit ⟨#[0xb1]⟩ 1 none, .arrayClass .int, .fieldLink RX4 9 "ReplicaChain$Sightings" "ticks" "[I", .arrayClass .boolean, .fieldLink RX4 15 "ReplicaChain$Sightings" "is" "[Z", .fieldLink RX4 19 "ReplicaChain$Sightings" "toldAt" "[I", .fieldLink RX4 22 "ReplicaChain$Sightings" "untoldAt" "[I"]
def wq_k_X4_init : List Cond := .code yX4_init cX4_init 1 none :: (wo_k_X4_init ++ (wsX40 ++ []))
theorem gd_k_X4_init : Gd wq_k_X4_init := gd_c (gd_a (gd_o (by decide +kernel)) (gd_a gd_u gd_0))
abbrev wc_k_X4_init (cyB cyI cyJ cyZ cyO : ClassId) (q3902 : Nat) : va_W := [(q3902, .inr (4, [.null, .null, .null, .null, .int 0]))]
set_option maxHeartbeats 4000000 in
set_option maxRecDepth 100000 in
theorem k_X4_init (l : Launch) (dC : Nat → ClassId) (dI : Nat → Nat → Nat) (cyB cyI cyJ cyZ cyO : ClassId) (q3902 : Nat) (sz : Nat) : Met l yX4_init wq_k_X4_init ({ frames := 1, cells := 4, slots := 120, locals := 20 }) (va_Pc [.ref q3902] (cB (dC, dI) (kT cyB cyI cyJ cyZ cyO) (wc_k_X4_init cyB cyI cyJ cyZ cyO q3902) sz)) (va_Qv (fun _ => True) (fun (u : Nat → Nat) t => cE (dC, dI) (va_A (wc_k_X4_init cyB cyI cyJ cyZ cyO q3902) sz) ([(q3902, .inr (4, [.ref (u 0), .ref (u 1), .ref (u 2), .ref (u 3), .int 0])), (u 0, .inl (cyI, 30, .inl (fun _ => 0))), (u 1, .inl (cyZ, 30, .inl (fun _ => 0))), (u 2, .inl (cyI, 30, .inl (fun _ => 0))), (u 3, .inl (cyI, 30, .inl (fun _ => 0)))]) t.heap) (va_A (wc_k_X4_init cyB cyI cyJ cyZ cyO q3902) sz)) 4 120 (va_A (wc_k_X4_init cyB cyI cyJ cyZ cyO q3902) sz) := by
  refine Met.ofW (cc := cX4_init) (maxL := 1) (ret := none) (by decide) rfl ?_
  intro p e s m args below meth c s₁ B hml hv
  obtain ⟨rfl, hsz, hP, hKN, hD0⟩ := hv
  have hx := B.exec
  have hb := B.bytes
  have hr := B.returns
  have hts := atoms_spec (ws := wq_k_X4_init) B.pre
  have hown : s.vm.findClass RX4 = some m.cls := findClass_of_methodNamed B.named
  have hlocks := B.notSynchronized
  have hin : meth.name = "<init>" := (name_of_methodNamed B.named B.method).1
  have hK := hKN.1
  have hfix : CallFix p m c cX4_init 1 s [.ref q3902].toArray wq_k_X4_init RX4 := ⟨hx, hb, hml, hown, hts⟩
  have hi4 : ∀ w ∈ wsX40, w ∈ wq_k_X4_init := (sb_c sb_l)
  subst hsz
  have hD := hD0.self (sz := s.heap.size)
  generalize hAe : va_A (wc_k_X4_init cyB cyI cyJ cyZ cyO q3902) s.heap.size = A at hD ⊢
  have hA : ∀ q : Nat, s.heap.size ≤ q → A q := fun q h => by rw [← hAe]; exact Or.inr h
  have hS : va_S A s.heap s.heap [] := va_S.rf
  have hl := lv_entry ([.ref q3902]) (n := 1) (Nat.le_of_ble_eq_true rfl)
  rw [lg_entry_eq]
  generalize (lg_sl ([.ref q3902]) ++ List.replicate (1 - (lg_sl ([.ref q3902])).length) Slot.unset).toArray = ls at hl ⊢
  have hl : lv_has ls 1 [(0, .ref q3902)] := hl
  refine lv_aload_n hx hb dX4_init_0 rfl (lv_at hl 0 rfl) ?_
  refine W.objInit hx hb hown (hts _ (ow_m (k := 0) rfl)) (hts _ (ow_m (k := 1) rfl)) (hts _ (ow_m (k := 2) rfl)) rfl (by rw [hml]; exact hl.1) rfl dX4_init_1 (Nat.le_of_ble_eq_true rfl) (Nat.le_of_ble_eq_true rfl) ?_
  refine W.eq (g2 := F0 m 4 ls []) rfl ?_
  refine lv_aload_n hx hb dX4_init_4 rfl (lv_at hl 0 rfl) ?_
  refine lv_bipush (v := 30) hx hb dX4_init_5 (by decide) ?_
  refine g_newa (a0 := (30, .inl (fun _ => 0))) hx hb (hts _ (ow_m (k := 3) rfl)) rfl hKN hP hD hS hA 1 rfl rfl (fun _ => rfl) (by decide) (by decide) (by decide) (Nat.le_of_ble_eq_true rfl) (Nat.le_of_ble_eq_true rfl) dX4_init_7 (fun q3907 H hP hD hS => ?_)
  have hP : va_P (dC, dI) vwCl [(q3902, .inr (4, [.null, .null, .null, .null, .int 0])), (q3907, .inl (cyI, 30, .inl (fun _ => 0)))] H := hP
  have hD : va_D A [(q3902, .inr (4, [.null, .null, .null, .null, .int 0])), (q3907, .inl (cyI, 30, .inl (fun _ => 0)))] := hD
  refine W.widen (k := 1) (n := 30) (by omega) (by omega) ?_
  refine va_putF (D := (dC, dI)) (ci := 4) (v := .ref q3907) (ty := .array .int) (C := RX4) (T := TX4) (N := 5) hx hb hts hi4 tyX4 tyX4_ok nmX4 hown hK hP hD hS 0 rfl rfl 0 (by decide) (hts _ (ow_m (k := 4) rfl)) (fun _ h9 => h9) rfl hin rfl (by decide +kernel) rfl rfl (Nat.le_of_ble_eq_true rfl) dX4_init_9 (fun H locs hP hD hS => ?_)
  have hP : va_P (dC, dI) vwCl [(q3902, .inr (4, [.ref q3907, .null, .null, .null, .int 0])), (q3907, .inl (cyI, 30, .inl (fun _ => 0)))] H := hP
  have hD : va_D A [(q3902, .inr (4, [.ref q3907, .null, .null, .null, .int 0])), (q3907, .inl (cyI, 30, .inl (fun _ => 0)))] := hD
  refine lv_aload_n hx hb dX4_init_12 rfl (lv_at hl 0 rfl) ?_
  refine lv_bipush (v := 30) hx hb dX4_init_13 (by decide) ?_
  refine g_newa (a0 := (30, .inl (fun _ => 0))) hx hb (hts _ (ow_m (k := 5) rfl)) rfl hKN hP hD hS hA 3 rfl rfl (fun _ => rfl) (by decide) (by decide) (by decide) (Nat.le_of_ble_eq_true rfl) (Nat.le_of_ble_eq_true rfl) dX4_init_15 (fun q3908 H hP hD hS => ?_)
  have hP : va_P (dC, dI) vwCl [(q3902, .inr (4, [.ref q3907, .null, .null, .null, .int 0])), (q3907, .inl (cyI, 30, .inl (fun _ => 0))), (q3908, .inl (cyZ, 30, .inl (fun _ => 0)))] H := hP
  have hD : va_D A [(q3902, .inr (4, [.ref q3907, .null, .null, .null, .int 0])), (q3907, .inl (cyI, 30, .inl (fun _ => 0))), (q3908, .inl (cyZ, 30, .inl (fun _ => 0)))] := hD
  refine W.widen (k := 2) (n := 60) (by omega) (by omega) ?_
  refine va_putF (D := (dC, dI)) (ci := 4) (v := .ref q3908) (ty := .array .boolean) (C := RX4) (T := TX4) (N := 5) hx hb hts hi4 tyX4 tyX4_ok nmX4 hown hK hP hD hS 0 rfl rfl 1 (by decide) (hts _ (ow_m (k := 6) rfl)) (fun _ h9 => h9) rfl hin rfl (by decide +kernel) rfl rfl (Nat.le_of_ble_eq_true rfl) dX4_init_17 (fun H locs hP hD hS => ?_)
  have hP : va_P (dC, dI) vwCl [(q3902, .inr (4, [.ref q3907, .ref q3908, .null, .null, .int 0])), (q3907, .inl (cyI, 30, .inl (fun _ => 0))), (q3908, .inl (cyZ, 30, .inl (fun _ => 0)))] H := hP
  have hD : va_D A [(q3902, .inr (4, [.ref q3907, .ref q3908, .null, .null, .int 0])), (q3907, .inl (cyI, 30, .inl (fun _ => 0))), (q3908, .inl (cyZ, 30, .inl (fun _ => 0)))] := hD
  refine lv_aload_n hx hb dX4_init_20 rfl (lv_at hl 0 rfl) ?_
  refine lv_bipush (v := 30) hx hb dX4_init_21 (by decide) ?_
  refine g_newa (a0 := (30, .inl (fun _ => 0))) hx hb (hts _ (ow_m (k := 3) rfl)) rfl hKN hP hD hS hA 1 rfl rfl (fun _ => rfl) (by decide) (by decide) (by decide) (Nat.le_of_ble_eq_true rfl) (Nat.le_of_ble_eq_true rfl) dX4_init_23 (fun q3909 H hP hD hS => ?_)
  have hP : va_P (dC, dI) vwCl [(q3902, .inr (4, [.ref q3907, .ref q3908, .null, .null, .int 0])), (q3907, .inl (cyI, 30, .inl (fun _ => 0))), (q3908, .inl (cyZ, 30, .inl (fun _ => 0))), (q3909, .inl (cyI, 30, .inl (fun _ => 0)))] H := hP
  have hD : va_D A [(q3902, .inr (4, [.ref q3907, .ref q3908, .null, .null, .int 0])), (q3907, .inl (cyI, 30, .inl (fun _ => 0))), (q3908, .inl (cyZ, 30, .inl (fun _ => 0))), (q3909, .inl (cyI, 30, .inl (fun _ => 0)))] := hD
  refine W.widen (k := 3) (n := 90) (by omega) (by omega) ?_
  refine va_putF (D := (dC, dI)) (ci := 4) (v := .ref q3909) (ty := .array .int) (C := RX4) (T := TX4) (N := 5) hx hb hts hi4 tyX4 tyX4_ok nmX4 hown hK hP hD hS 0 rfl rfl 2 (by decide) (hts _ (ow_m (k := 7) rfl)) (fun _ h9 => h9) rfl hin rfl (by decide +kernel) rfl rfl (Nat.le_of_ble_eq_true rfl) dX4_init_25 (fun H locs hP hD hS => ?_)
  have hP : va_P (dC, dI) vwCl [(q3902, .inr (4, [.ref q3907, .ref q3908, .ref q3909, .null, .int 0])), (q3907, .inl (cyI, 30, .inl (fun _ => 0))), (q3908, .inl (cyZ, 30, .inl (fun _ => 0))), (q3909, .inl (cyI, 30, .inl (fun _ => 0)))] H := hP
  have hD : va_D A [(q3902, .inr (4, [.ref q3907, .ref q3908, .ref q3909, .null, .int 0])), (q3907, .inl (cyI, 30, .inl (fun _ => 0))), (q3908, .inl (cyZ, 30, .inl (fun _ => 0))), (q3909, .inl (cyI, 30, .inl (fun _ => 0)))] := hD
  refine lv_aload_n hx hb dX4_init_28 rfl (lv_at hl 0 rfl) ?_
  refine lv_bipush (v := 30) hx hb dX4_init_29 (by decide) ?_
  refine g_newa (a0 := (30, .inl (fun _ => 0))) hx hb (hts _ (ow_m (k := 3) rfl)) rfl hKN hP hD hS hA 1 rfl rfl (fun _ => rfl) (by decide) (by decide) (by decide) (Nat.le_of_ble_eq_true rfl) (Nat.le_of_ble_eq_true rfl) dX4_init_31 (fun q3910 H hP hD hS => ?_)
  have hP : va_P (dC, dI) vwCl [(q3902, .inr (4, [.ref q3907, .ref q3908, .ref q3909, .null, .int 0])), (q3907, .inl (cyI, 30, .inl (fun _ => 0))), (q3908, .inl (cyZ, 30, .inl (fun _ => 0))), (q3909, .inl (cyI, 30, .inl (fun _ => 0))), (q3910, .inl (cyI, 30, .inl (fun _ => 0)))] H := hP
  have hD : va_D A [(q3902, .inr (4, [.ref q3907, .ref q3908, .ref q3909, .null, .int 0])), (q3907, .inl (cyI, 30, .inl (fun _ => 0))), (q3908, .inl (cyZ, 30, .inl (fun _ => 0))), (q3909, .inl (cyI, 30, .inl (fun _ => 0))), (q3910, .inl (cyI, 30, .inl (fun _ => 0)))] := hD
  refine W.widen (k := 4) (n := 120) (by omega) (by omega) ?_
  refine va_putF (D := (dC, dI)) (ci := 4) (v := .ref q3910) (ty := .array .int) (C := RX4) (T := TX4) (N := 5) hx hb hts hi4 tyX4 tyX4_ok nmX4 hown hK hP hD hS 0 rfl rfl 3 (by decide) (hts _ (ow_m (k := 8) rfl)) (fun _ h9 => h9) rfl hin rfl (by decide +kernel) rfl rfl (Nat.le_of_ble_eq_true rfl) dX4_init_33 (fun H locs hP hD hS => ?_)
  have hP : va_P (dC, dI) vwCl [(q3902, .inr (4, [.ref q3907, .ref q3908, .ref q3909, .ref q3910, .int 0])), (q3907, .inl (cyI, 30, .inl (fun _ => 0))), (q3908, .inl (cyZ, 30, .inl (fun _ => 0))), (q3909, .inl (cyI, 30, .inl (fun _ => 0))), (q3910, .inl (cyI, 30, .inl (fun _ => 0)))] H := hP
  have hD : va_D A [(q3902, .inr (4, [.ref q3907, .ref q3908, .ref q3909, .ref q3910, .int 0])), (q3907, .inl (cyI, 30, .inl (fun _ => 0))), (q3908, .inl (cyZ, 30, .inl (fun _ => 0))), (q3909, .inl (cyI, 30, .inl (fun _ => 0))), (q3910, .inl (cyI, 30, .inl (fun _ => 0)))] := hD
  exact W.vret hx hb hr (fun t ht hW => ⟨⟨(fun k => match k with | 0 => q3907 | 1 => q3908 | 2 => q3909 | _ => q3910), rfl, trivial, cE.of ht hP hD [0, 1, 2, 3, 4] (by decide) rfl⟩, hS.F ht⟩) hS.2.2 dX4_init_36
def wo_k_X3_follow_v2 : List Cond := [.fieldLink RX3 9 "ReplicaChain$Rules" "plan" "LReplicaChain$Plan;"]
def wq_k_X3_follow_v2 : List Cond := .code yX3_follow cX3_follow 2 none :: (wo_k_X3_follow_v2 ++ (wsX30 ++ []))
theorem gd_k_X3_follow_v2 : Gd wq_k_X3_follow_v2 := gd_c (gd_a (gd_o (by decide +kernel)) (gd_a gd_u gd_0))
abbrev wc_k_X3_follow_v2 (cyB cyI cyJ cyZ cyO : ClassId) (q3877 : Nat) (q3796 : Nat) : va_W := [(q3877, .inr (3, [.ref q3796, .int 0]))]
set_option maxHeartbeats 4000000 in
set_option maxRecDepth 100000 in
theorem k_X3_follow_v2 (l : Launch) (dC : Nat → ClassId) (dI : Nat → Nat → Nat) (cyB cyI cyJ cyZ cyO : ClassId) (q3877 : Nat) (q3796 : Nat) (sz : Nat) : Met l yX3_follow wq_k_X3_follow_v2 ({ frames := 0, cells := 0, slots := 0, locals := 0 }) (va_Pc [.ref q3877, .ref q3796] (cB (dC, dI) (kT cyB cyI cyJ cyZ cyO) (wc_k_X3_follow_v2 cyB cyI cyJ cyZ cyO q3877 q3796) sz)) (va_Qv (fun _ => True) (fun (u : Unit) t => cE (dC, dI) (va_A (wc_k_X3_follow_v2 cyB cyI cyJ cyZ cyO q3877 q3796) sz) ([(q3877, .inr (3, [.ref q3796, .int 0]))]) t.heap) (va_A (wc_k_X3_follow_v2 cyB cyI cyJ cyZ cyO q3877 q3796) sz)) 0 0 (va_A (wc_k_X3_follow_v2 cyB cyI cyJ cyZ cyO q3877 q3796) sz) := by
  refine Met.ofW (cc := cX3_follow) (maxL := 2) (ret := none) (by decide) rfl ?_
  intro p e s m args below meth c s₁ B hml hv
  obtain ⟨rfl, hsz, hP, hKN, hD0⟩ := hv
  have hx := B.exec
  have hb := B.bytes
  have hr := B.returns
  have hts := atoms_spec (ws := wq_k_X3_follow_v2) B.pre
  have hown : s.vm.findClass RX3 = some m.cls := findClass_of_methodNamed B.named
  have hlocks := B.notSynchronized
  have hK := hKN.1
  have hfix : CallFix p m c cX3_follow 2 s [.ref q3877, .ref q3796].toArray wq_k_X3_follow_v2 RX3 := ⟨hx, hb, hml, hown, hts⟩
  have hi3 : ∀ w ∈ wsX30, w ∈ wq_k_X3_follow_v2 := (sb_c sb_l)
  subst hsz
  have hD := hD0.self (sz := s.heap.size)
  generalize hAe : va_A (wc_k_X3_follow_v2 cyB cyI cyJ cyZ cyO q3877 q3796) s.heap.size = A at hD ⊢
  have hA : ∀ q : Nat, s.heap.size ≤ q → A q := fun q h => by rw [← hAe]; exact Or.inr h
  have hS : va_S A s.heap s.heap [] := va_S.rf
  have hl := lv_entry ([.ref q3877, .ref q3796]) (n := 2) (Nat.le_of_ble_eq_true rfl)
  rw [lg_entry_eq]
  generalize (lg_sl ([.ref q3877, .ref q3796]) ++ List.replicate (2 - (lg_sl ([.ref q3877, .ref q3796])).length) Slot.unset).toArray = ls at hl ⊢
  have hl : lv_has ls 2 [(0, .ref q3877), (1, .ref q3796)] := hl
  refine lv_aload_n hx hb dX3_follow_0 rfl (lv_at hl 0 rfl) ?_
  refine lv_aload_n hx hb dX3_follow_1 rfl (lv_at hl 1 rfl) ?_
  refine va_put (D := (dC, dI)) (ci := 3) (v := .ref q3796) (ty := .object "ReplicaChain$Plan") (C := RX3) (T := TX3) (N := 2) hx hb hts hi3 tyX3 tyX3_ok nmX3 hown hK hP hD hS 0 rfl rfl 0 (by decide) (hts _ (ow_m (k := 0) rfl)) (fun _ h9 => h9) rfl (by decide +kernel) rfl rfl (Nat.le_of_ble_eq_true rfl) dX3_follow_2 (fun H locs hP hD hS => ?_)
  have hP : va_P (dC, dI) vwCl [(q3877, .inr (3, [.ref q3796, .int 0]))] H := hP
  have hD : va_D A [(q3877, .inr (3, [.ref q3796, .int 0]))] := hD
  exact W.vret hx hb hr (fun t ht hW => ⟨⟨(), rfl, trivial, cE.of ht hP hD [0] (by decide) rfl⟩, hS.F ht⟩) hS.2.2 dX3_follow_5
def wo_k_X5_init_v10 : List Cond := [.methodLink RX5 3 objectInit, .instanceMethod objectInit, .code objectInit ⟨#[0xb1]⟩ 1 none, .arrayClass .int, .fieldLink RX5 9 "ReplicaChain$State" "row" "[I", .fieldLink RX5 15 "ReplicaChain$State" "has" "[I", .fieldLink RX5 18 "ReplicaChain$State" "clean" "[I", .fieldLink RX5 21 "ReplicaChain$State" "downDue" "[I", .fieldLink RX5 24 "ReplicaChain$State" "upDue" "[I", .fieldLink RX5 27 "ReplicaChain$State" "keys" "[I", .fieldLink RX5 30 "ReplicaChain$State" "values" "[I", .fieldLink RX5 33 "ReplicaChain$State" "copier" "I"]
def wq_k_X5_init_v10 : List Cond := .code yX5_init cX5_init 1 none :: (wo_k_X5_init_v10 ++ (wsX50 ++ []))
theorem gd_k_X5_init_v10 : Gd wq_k_X5_init_v10 := gd_c (gd_a (gd_o (by decide +kernel)) (gd_a gd_u gd_0))
abbrev wc_k_X5_init_v10 (cyB cyI cyJ cyZ cyO : ClassId) (q3916 : Nat) : va_W := [(q3916, .inr (5, [.null, .null, .null, .null, .null, .null, .null, .int 0, .int 0, .int 0, .int 0, .int 0, .int 0]))]
set_option maxHeartbeats 4000000 in
set_option maxRecDepth 100000 in
theorem k_X5_init_v10 (l : Launch) (dC : Nat → ClassId) (dI : Nat → Nat → Nat) (cyB cyI cyJ cyZ cyO : ClassId) (q3916 : Nat) (sz : Nat) : Met l yX5_init wq_k_X5_init_v10 ({ frames := 1, cells := 7, slots := 760, locals := 20 }) (va_Pc [.ref q3916] (cB (dC, dI) (kT cyB cyI cyJ cyZ cyO) (wc_k_X5_init_v10 cyB cyI cyJ cyZ cyO q3916) sz)) (va_Qv (fun _ => True) (fun (u : Nat → Nat) t => cE (dC, dI) (va_A (wc_k_X5_init_v10 cyB cyI cyJ cyZ cyO q3916) sz) ([(q3916, .inr (5, [.ref (u 0), .ref (u 1), .ref (u 2), .ref (u 3), .ref (u 4), .ref (u 5), .ref (u 6), .int 0, .int (-1), .int 0, .int 0, .int 0, .int 0])), (u 0, .inl (cyI, 6, .inl (fun _ => 0))), (u 1, .inl (cyI, 8, .inl (fun _ => 0))), (u 2, .inl (cyI, 8, .inl (fun _ => 0))), (u 3, .inl (cyI, 328, .inl (fun _ => 0))), (u 4, .inl (cyI, 328, .inl (fun _ => 0))), (u 5, .inl (cyI, 41, .inl (fun _ => 0))), (u 6, .inl (cyI, 41, .inl (fun _ => 0)))]) t.heap) (va_A (wc_k_X5_init_v10 cyB cyI cyJ cyZ cyO q3916) sz)) 7 760 (va_A (wc_k_X5_init_v10 cyB cyI cyJ cyZ cyO q3916) sz) := by
  refine Met.ofW (cc := cX5_init) (maxL := 1) (ret := none) (by decide) rfl ?_
  intro p e s m args below meth c s₁ B hml hv
  obtain ⟨rfl, hsz, hP, hKN, hD0⟩ := hv
  have hx := B.exec
  have hb := B.bytes
  have hr := B.returns
  have hts := atoms_spec (ws := wq_k_X5_init_v10) B.pre
  have hown : s.vm.findClass RX5 = some m.cls := findClass_of_methodNamed B.named
  have hlocks := B.notSynchronized
  have hin : meth.name = "<init>" := (name_of_methodNamed B.named B.method).1
  have hK := hKN.1
  have hfix : CallFix p m c cX5_init 1 s [.ref q3916].toArray wq_k_X5_init_v10 RX5 := ⟨hx, hb, hml, hown, hts⟩
  have hi5 : ∀ w ∈ wsX50, w ∈ wq_k_X5_init_v10 := (sb_c sb_l)
  subst hsz
  have hD := hD0.self (sz := s.heap.size)
  generalize hAe : va_A (wc_k_X5_init_v10 cyB cyI cyJ cyZ cyO q3916) s.heap.size = A at hD ⊢
  have hA : ∀ q : Nat, s.heap.size ≤ q → A q := fun q h => by rw [← hAe]; exact Or.inr h
  have hS : va_S A s.heap s.heap [] := va_S.rf
  have hl := lv_entry ([.ref q3916]) (n := 1) (Nat.le_of_ble_eq_true rfl)
  rw [lg_entry_eq]
  generalize (lg_sl ([.ref q3916]) ++ List.replicate (1 - (lg_sl ([.ref q3916])).length) Slot.unset).toArray = ls at hl ⊢
  have hl : lv_has ls 1 [(0, .ref q3916)] := hl
  refine lv_aload_n hx hb dX5_init_0 rfl (lv_at hl 0 rfl) ?_
  refine W.objInit hx hb hown (hts _ (ow_m (k := 0) rfl)) (hts _ (ow_m (k := 1) rfl)) (hts _ (ow_m (k := 2) rfl)) rfl (by rw [hml]; exact hl.1) rfl dX5_init_1 (Nat.le_of_ble_eq_true rfl) (Nat.le_of_ble_eq_true rfl) ?_
  refine W.eq (g2 := F0 m 4 ls []) rfl ?_
  refine lv_aload_n hx hb dX5_init_4 rfl (lv_at hl 0 rfl) ?_
  refine lv_bipush (v := 6) hx hb dX5_init_5 (by decide) ?_
  refine g_newa (a0 := (6, .inl (fun _ => 0))) hx hb (hts _ (ow_m (k := 3) rfl)) rfl hKN hP hD hS hA 1 rfl rfl (fun _ => rfl) (by decide) (by decide) (by decide) (Nat.le_of_ble_eq_true rfl) (Nat.le_of_ble_eq_true rfl) dX5_init_7 (fun q3924 H hP hD hS => ?_)
  have hP : va_P (dC, dI) vwCl [(q3916, .inr (5, [.null, .null, .null, .null, .null, .null, .null, .int 0, .int 0, .int 0, .int 0, .int 0, .int 0])), (q3924, .inl (cyI, 6, .inl (fun _ => 0)))] H := hP
  have hD : va_D A [(q3916, .inr (5, [.null, .null, .null, .null, .null, .null, .null, .int 0, .int 0, .int 0, .int 0, .int 0, .int 0])), (q3924, .inl (cyI, 6, .inl (fun _ => 0)))] := hD
  refine W.widen (k := 1) (n := 6) (by omega) (by omega) ?_
  refine va_putF (D := (dC, dI)) (ci := 5) (v := .ref q3924) (ty := .array .int) (C := RX5) (T := TX5) (N := 13) hx hb hts hi5 tyX5 tyX5_ok nmX5 hown hK hP hD hS 0 rfl rfl 0 (by decide) (hts _ (ow_m (k := 4) rfl)) (fun _ h9 => h9) rfl hin rfl (by decide +kernel) rfl rfl (Nat.le_of_ble_eq_true rfl) dX5_init_9 (fun H locs hP hD hS => ?_)
  have hP : va_P (dC, dI) vwCl [(q3916, .inr (5, [.ref q3924, .null, .null, .null, .null, .null, .null, .int 0, .int 0, .int 0, .int 0, .int 0, .int 0])), (q3924, .inl (cyI, 6, .inl (fun _ => 0)))] H := hP
  have hD : va_D A [(q3916, .inr (5, [.ref q3924, .null, .null, .null, .null, .null, .null, .int 0, .int 0, .int 0, .int 0, .int 0, .int 0])), (q3924, .inl (cyI, 6, .inl (fun _ => 0)))] := hD
  refine lv_aload_n hx hb dX5_init_12 rfl (lv_at hl 0 rfl) ?_
  refine lv_bipush (v := 8) hx hb dX5_init_13 (by decide) ?_
  refine g_newa (a0 := (8, .inl (fun _ => 0))) hx hb (hts _ (ow_m (k := 3) rfl)) rfl hKN hP hD hS hA 1 rfl rfl (fun _ => rfl) (by decide) (by decide) (by decide) (Nat.le_of_ble_eq_true rfl) (Nat.le_of_ble_eq_true rfl) dX5_init_15 (fun q3925 H hP hD hS => ?_)
  have hP : va_P (dC, dI) vwCl [(q3916, .inr (5, [.ref q3924, .null, .null, .null, .null, .null, .null, .int 0, .int 0, .int 0, .int 0, .int 0, .int 0])), (q3924, .inl (cyI, 6, .inl (fun _ => 0))), (q3925, .inl (cyI, 8, .inl (fun _ => 0)))] H := hP
  have hD : va_D A [(q3916, .inr (5, [.ref q3924, .null, .null, .null, .null, .null, .null, .int 0, .int 0, .int 0, .int 0, .int 0, .int 0])), (q3924, .inl (cyI, 6, .inl (fun _ => 0))), (q3925, .inl (cyI, 8, .inl (fun _ => 0)))] := hD
  refine W.widen (k := 2) (n := 14) (by omega) (by omega) ?_
  refine va_putF (D := (dC, dI)) (ci := 5) (v := .ref q3925) (ty := .array .int) (C := RX5) (T := TX5) (N := 13) hx hb hts hi5 tyX5 tyX5_ok nmX5 hown hK hP hD hS 0 rfl rfl 1 (by decide) (hts _ (ow_m (k := 5) rfl)) (fun _ h9 => h9) rfl hin rfl (by decide +kernel) rfl rfl (Nat.le_of_ble_eq_true rfl) dX5_init_17 (fun H locs hP hD hS => ?_)
  have hP : va_P (dC, dI) vwCl [(q3916, .inr (5, [.ref q3924, .ref q3925, .null, .null, .null, .null, .null, .int 0, .int 0, .int 0, .int 0, .int 0, .int 0])), (q3924, .inl (cyI, 6, .inl (fun _ => 0))), (q3925, .inl (cyI, 8, .inl (fun _ => 0)))] H := hP
  have hD : va_D A [(q3916, .inr (5, [.ref q3924, .ref q3925, .null, .null, .null, .null, .null, .int 0, .int 0, .int 0, .int 0, .int 0, .int 0])), (q3924, .inl (cyI, 6, .inl (fun _ => 0))), (q3925, .inl (cyI, 8, .inl (fun _ => 0)))] := hD
  refine lv_aload_n hx hb dX5_init_20 rfl (lv_at hl 0 rfl) ?_
  refine lv_bipush (v := 8) hx hb dX5_init_21 (by decide) ?_
  refine g_newa (a0 := (8, .inl (fun _ => 0))) hx hb (hts _ (ow_m (k := 3) rfl)) rfl hKN hP hD hS hA 1 rfl rfl (fun _ => rfl) (by decide) (by decide) (by decide) (Nat.le_of_ble_eq_true rfl) (Nat.le_of_ble_eq_true rfl) dX5_init_23 (fun q3926 H hP hD hS => ?_)
  have hP : va_P (dC, dI) vwCl [(q3916, .inr (5, [.ref q3924, .ref q3925, .null, .null, .null, .null, .null, .int 0, .int 0, .int 0, .int 0, .int 0, .int 0])), (q3924, .inl (cyI, 6, .inl (fun _ => 0))), (q3925, .inl (cyI, 8, .inl (fun _ => 0))), (q3926, .inl (cyI, 8, .inl (fun _ => 0)))] H := hP
  have hD : va_D A [(q3916, .inr (5, [.ref q3924, .ref q3925, .null, .null, .null, .null, .null, .int 0, .int 0, .int 0, .int 0, .int 0, .int 0])), (q3924, .inl (cyI, 6, .inl (fun _ => 0))), (q3925, .inl (cyI, 8, .inl (fun _ => 0))), (q3926, .inl (cyI, 8, .inl (fun _ => 0)))] := hD
  refine W.widen (k := 3) (n := 22) (by omega) (by omega) ?_
  refine va_putF (D := (dC, dI)) (ci := 5) (v := .ref q3926) (ty := .array .int) (C := RX5) (T := TX5) (N := 13) hx hb hts hi5 tyX5 tyX5_ok nmX5 hown hK hP hD hS 0 rfl rfl 2 (by decide) (hts _ (ow_m (k := 6) rfl)) (fun _ h9 => h9) rfl hin rfl (by decide +kernel) rfl rfl (Nat.le_of_ble_eq_true rfl) dX5_init_25 (fun H locs hP hD hS => ?_)
  have hP : va_P (dC, dI) vwCl [(q3916, .inr (5, [.ref q3924, .ref q3925, .ref q3926, .null, .null, .null, .null, .int 0, .int 0, .int 0, .int 0, .int 0, .int 0])), (q3924, .inl (cyI, 6, .inl (fun _ => 0))), (q3925, .inl (cyI, 8, .inl (fun _ => 0))), (q3926, .inl (cyI, 8, .inl (fun _ => 0)))] H := hP
  have hD : va_D A [(q3916, .inr (5, [.ref q3924, .ref q3925, .ref q3926, .null, .null, .null, .null, .int 0, .int 0, .int 0, .int 0, .int 0, .int 0])), (q3924, .inl (cyI, 6, .inl (fun _ => 0))), (q3925, .inl (cyI, 8, .inl (fun _ => 0))), (q3926, .inl (cyI, 8, .inl (fun _ => 0)))] := hD
  refine lv_aload_n hx hb dX5_init_28 rfl (lv_at hl 0 rfl) ?_
  refine lv_sipush (v := 328) hx hb dX5_init_29 (by decide) ?_
  refine g_newa (a0 := (328, .inl (fun _ => 0))) hx hb (hts _ (ow_m (k := 3) rfl)) rfl hKN hP hD hS hA 1 rfl rfl (fun _ => rfl) (by decide) (by decide) (by decide) (Nat.le_of_ble_eq_true rfl) (Nat.le_of_ble_eq_true rfl) dX5_init_32 (fun q3927 H hP hD hS => ?_)
  have hP : va_P (dC, dI) vwCl [(q3916, .inr (5, [.ref q3924, .ref q3925, .ref q3926, .null, .null, .null, .null, .int 0, .int 0, .int 0, .int 0, .int 0, .int 0])), (q3924, .inl (cyI, 6, .inl (fun _ => 0))), (q3925, .inl (cyI, 8, .inl (fun _ => 0))), (q3926, .inl (cyI, 8, .inl (fun _ => 0))), (q3927, .inl (cyI, 328, .inl (fun _ => 0)))] H := hP
  have hD : va_D A [(q3916, .inr (5, [.ref q3924, .ref q3925, .ref q3926, .null, .null, .null, .null, .int 0, .int 0, .int 0, .int 0, .int 0, .int 0])), (q3924, .inl (cyI, 6, .inl (fun _ => 0))), (q3925, .inl (cyI, 8, .inl (fun _ => 0))), (q3926, .inl (cyI, 8, .inl (fun _ => 0))), (q3927, .inl (cyI, 328, .inl (fun _ => 0)))] := hD
  refine W.widen (k := 4) (n := 350) (by omega) (by omega) ?_
  refine va_putF (D := (dC, dI)) (ci := 5) (v := .ref q3927) (ty := .array .int) (C := RX5) (T := TX5) (N := 13) hx hb hts hi5 tyX5 tyX5_ok nmX5 hown hK hP hD hS 0 rfl rfl 3 (by decide) (hts _ (ow_m (k := 7) rfl)) (fun _ h9 => h9) rfl hin rfl (by decide +kernel) rfl rfl (Nat.le_of_ble_eq_true rfl) dX5_init_34 (fun H locs hP hD hS => ?_)
  have hP : va_P (dC, dI) vwCl [(q3916, .inr (5, [.ref q3924, .ref q3925, .ref q3926, .ref q3927, .null, .null, .null, .int 0, .int 0, .int 0, .int 0, .int 0, .int 0])), (q3924, .inl (cyI, 6, .inl (fun _ => 0))), (q3925, .inl (cyI, 8, .inl (fun _ => 0))), (q3926, .inl (cyI, 8, .inl (fun _ => 0))), (q3927, .inl (cyI, 328, .inl (fun _ => 0)))] H := hP
  have hD : va_D A [(q3916, .inr (5, [.ref q3924, .ref q3925, .ref q3926, .ref q3927, .null, .null, .null, .int 0, .int 0, .int 0, .int 0, .int 0, .int 0])), (q3924, .inl (cyI, 6, .inl (fun _ => 0))), (q3925, .inl (cyI, 8, .inl (fun _ => 0))), (q3926, .inl (cyI, 8, .inl (fun _ => 0))), (q3927, .inl (cyI, 328, .inl (fun _ => 0)))] := hD
  refine lv_aload_n hx hb dX5_init_37 rfl (lv_at hl 0 rfl) ?_
  refine lv_sipush (v := 328) hx hb dX5_init_38 (by decide) ?_
  refine g_newa (a0 := (328, .inl (fun _ => 0))) hx hb (hts _ (ow_m (k := 3) rfl)) rfl hKN hP hD hS hA 1 rfl rfl (fun _ => rfl) (by decide) (by decide) (by decide) (Nat.le_of_ble_eq_true rfl) (Nat.le_of_ble_eq_true rfl) dX5_init_41 (fun q3928 H hP hD hS => ?_)
  have hP : va_P (dC, dI) vwCl [(q3916, .inr (5, [.ref q3924, .ref q3925, .ref q3926, .ref q3927, .null, .null, .null, .int 0, .int 0, .int 0, .int 0, .int 0, .int 0])), (q3924, .inl (cyI, 6, .inl (fun _ => 0))), (q3925, .inl (cyI, 8, .inl (fun _ => 0))), (q3926, .inl (cyI, 8, .inl (fun _ => 0))), (q3927, .inl (cyI, 328, .inl (fun _ => 0))), (q3928, .inl (cyI, 328, .inl (fun _ => 0)))] H := hP
  have hD : va_D A [(q3916, .inr (5, [.ref q3924, .ref q3925, .ref q3926, .ref q3927, .null, .null, .null, .int 0, .int 0, .int 0, .int 0, .int 0, .int 0])), (q3924, .inl (cyI, 6, .inl (fun _ => 0))), (q3925, .inl (cyI, 8, .inl (fun _ => 0))), (q3926, .inl (cyI, 8, .inl (fun _ => 0))), (q3927, .inl (cyI, 328, .inl (fun _ => 0))), (q3928, .inl (cyI, 328, .inl (fun _ => 0)))] := hD
  refine W.widen (k := 5) (n := 678) (by omega) (by omega) ?_
  refine va_putF (D := (dC, dI)) (ci := 5) (v := .ref q3928) (ty := .array .int) (C := RX5) (T := TX5) (N := 13) hx hb hts hi5 tyX5 tyX5_ok nmX5 hown hK hP hD hS 0 rfl rfl 4 (by decide) (hts _ (ow_m (k := 8) rfl)) (fun _ h9 => h9) rfl hin rfl (by decide +kernel) rfl rfl (Nat.le_of_ble_eq_true rfl) dX5_init_43 (fun H locs hP hD hS => ?_)
  have hP : va_P (dC, dI) vwCl [(q3916, .inr (5, [.ref q3924, .ref q3925, .ref q3926, .ref q3927, .ref q3928, .null, .null, .int 0, .int 0, .int 0, .int 0, .int 0, .int 0])), (q3924, .inl (cyI, 6, .inl (fun _ => 0))), (q3925, .inl (cyI, 8, .inl (fun _ => 0))), (q3926, .inl (cyI, 8, .inl (fun _ => 0))), (q3927, .inl (cyI, 328, .inl (fun _ => 0))), (q3928, .inl (cyI, 328, .inl (fun _ => 0)))] H := hP
  have hD : va_D A [(q3916, .inr (5, [.ref q3924, .ref q3925, .ref q3926, .ref q3927, .ref q3928, .null, .null, .int 0, .int 0, .int 0, .int 0, .int 0, .int 0])), (q3924, .inl (cyI, 6, .inl (fun _ => 0))), (q3925, .inl (cyI, 8, .inl (fun _ => 0))), (q3926, .inl (cyI, 8, .inl (fun _ => 0))), (q3927, .inl (cyI, 328, .inl (fun _ => 0))), (q3928, .inl (cyI, 328, .inl (fun _ => 0)))] := hD
  refine lv_aload_n hx hb dX5_init_46 rfl (lv_at hl 0 rfl) ?_
  refine lv_bipush (v := 41) hx hb dX5_init_47 (by decide) ?_
  refine g_newa (a0 := (41, .inl (fun _ => 0))) hx hb (hts _ (ow_m (k := 3) rfl)) rfl hKN hP hD hS hA 1 rfl rfl (fun _ => rfl) (by decide) (by decide) (by decide) (Nat.le_of_ble_eq_true rfl) (Nat.le_of_ble_eq_true rfl) dX5_init_49 (fun q3929 H hP hD hS => ?_)
  have hP : va_P (dC, dI) vwCl [(q3916, .inr (5, [.ref q3924, .ref q3925, .ref q3926, .ref q3927, .ref q3928, .null, .null, .int 0, .int 0, .int 0, .int 0, .int 0, .int 0])), (q3924, .inl (cyI, 6, .inl (fun _ => 0))), (q3925, .inl (cyI, 8, .inl (fun _ => 0))), (q3926, .inl (cyI, 8, .inl (fun _ => 0))), (q3927, .inl (cyI, 328, .inl (fun _ => 0))), (q3928, .inl (cyI, 328, .inl (fun _ => 0))), (q3929, .inl (cyI, 41, .inl (fun _ => 0)))] H := hP
  have hD : va_D A [(q3916, .inr (5, [.ref q3924, .ref q3925, .ref q3926, .ref q3927, .ref q3928, .null, .null, .int 0, .int 0, .int 0, .int 0, .int 0, .int 0])), (q3924, .inl (cyI, 6, .inl (fun _ => 0))), (q3925, .inl (cyI, 8, .inl (fun _ => 0))), (q3926, .inl (cyI, 8, .inl (fun _ => 0))), (q3927, .inl (cyI, 328, .inl (fun _ => 0))), (q3928, .inl (cyI, 328, .inl (fun _ => 0))), (q3929, .inl (cyI, 41, .inl (fun _ => 0)))] := hD
  refine W.widen (k := 6) (n := 719) (by omega) (by omega) ?_
  refine va_putF (D := (dC, dI)) (ci := 5) (v := .ref q3929) (ty := .array .int) (C := RX5) (T := TX5) (N := 13) hx hb hts hi5 tyX5 tyX5_ok nmX5 hown hK hP hD hS 0 rfl rfl 5 (by decide) (hts _ (ow_m (k := 9) rfl)) (fun _ h9 => h9) rfl hin rfl (by decide +kernel) rfl rfl (Nat.le_of_ble_eq_true rfl) dX5_init_51 (fun H locs hP hD hS => ?_)
  have hP : va_P (dC, dI) vwCl [(q3916, .inr (5, [.ref q3924, .ref q3925, .ref q3926, .ref q3927, .ref q3928, .ref q3929, .null, .int 0, .int 0, .int 0, .int 0, .int 0, .int 0])), (q3924, .inl (cyI, 6, .inl (fun _ => 0))), (q3925, .inl (cyI, 8, .inl (fun _ => 0))), (q3926, .inl (cyI, 8, .inl (fun _ => 0))), (q3927, .inl (cyI, 328, .inl (fun _ => 0))), (q3928, .inl (cyI, 328, .inl (fun _ => 0))), (q3929, .inl (cyI, 41, .inl (fun _ => 0)))] H := hP
  have hD : va_D A [(q3916, .inr (5, [.ref q3924, .ref q3925, .ref q3926, .ref q3927, .ref q3928, .ref q3929, .null, .int 0, .int 0, .int 0, .int 0, .int 0, .int 0])), (q3924, .inl (cyI, 6, .inl (fun _ => 0))), (q3925, .inl (cyI, 8, .inl (fun _ => 0))), (q3926, .inl (cyI, 8, .inl (fun _ => 0))), (q3927, .inl (cyI, 328, .inl (fun _ => 0))), (q3928, .inl (cyI, 328, .inl (fun _ => 0))), (q3929, .inl (cyI, 41, .inl (fun _ => 0)))] := hD
  refine lv_aload_n hx hb dX5_init_54 rfl (lv_at hl 0 rfl) ?_
  refine lv_bipush (v := 41) hx hb dX5_init_55 (by decide) ?_
  refine g_newa (a0 := (41, .inl (fun _ => 0))) hx hb (hts _ (ow_m (k := 3) rfl)) rfl hKN hP hD hS hA 1 rfl rfl (fun _ => rfl) (by decide) (by decide) (by decide) (Nat.le_of_ble_eq_true rfl) (Nat.le_of_ble_eq_true rfl) dX5_init_57 (fun q3930 H hP hD hS => ?_)
  have hP : va_P (dC, dI) vwCl [(q3916, .inr (5, [.ref q3924, .ref q3925, .ref q3926, .ref q3927, .ref q3928, .ref q3929, .null, .int 0, .int 0, .int 0, .int 0, .int 0, .int 0])), (q3924, .inl (cyI, 6, .inl (fun _ => 0))), (q3925, .inl (cyI, 8, .inl (fun _ => 0))), (q3926, .inl (cyI, 8, .inl (fun _ => 0))), (q3927, .inl (cyI, 328, .inl (fun _ => 0))), (q3928, .inl (cyI, 328, .inl (fun _ => 0))), (q3929, .inl (cyI, 41, .inl (fun _ => 0))), (q3930, .inl (cyI, 41, .inl (fun _ => 0)))] H := hP
  have hD : va_D A [(q3916, .inr (5, [.ref q3924, .ref q3925, .ref q3926, .ref q3927, .ref q3928, .ref q3929, .null, .int 0, .int 0, .int 0, .int 0, .int 0, .int 0])), (q3924, .inl (cyI, 6, .inl (fun _ => 0))), (q3925, .inl (cyI, 8, .inl (fun _ => 0))), (q3926, .inl (cyI, 8, .inl (fun _ => 0))), (q3927, .inl (cyI, 328, .inl (fun _ => 0))), (q3928, .inl (cyI, 328, .inl (fun _ => 0))), (q3929, .inl (cyI, 41, .inl (fun _ => 0))), (q3930, .inl (cyI, 41, .inl (fun _ => 0)))] := hD
  refine W.widen (k := 7) (n := 760) (by omega) (by omega) ?_
  refine va_putF (D := (dC, dI)) (ci := 5) (v := .ref q3930) (ty := .array .int) (C := RX5) (T := TX5) (N := 13) hx hb hts hi5 tyX5 tyX5_ok nmX5 hown hK hP hD hS 0 rfl rfl 6 (by decide) (hts _ (ow_m (k := 10) rfl)) (fun _ h9 => h9) rfl hin rfl (by decide +kernel) rfl rfl (Nat.le_of_ble_eq_true rfl) dX5_init_59 (fun H locs hP hD hS => ?_)
  have hP : va_P (dC, dI) vwCl [(q3916, .inr (5, [.ref q3924, .ref q3925, .ref q3926, .ref q3927, .ref q3928, .ref q3929, .ref q3930, .int 0, .int 0, .int 0, .int 0, .int 0, .int 0])), (q3924, .inl (cyI, 6, .inl (fun _ => 0))), (q3925, .inl (cyI, 8, .inl (fun _ => 0))), (q3926, .inl (cyI, 8, .inl (fun _ => 0))), (q3927, .inl (cyI, 328, .inl (fun _ => 0))), (q3928, .inl (cyI, 328, .inl (fun _ => 0))), (q3929, .inl (cyI, 41, .inl (fun _ => 0))), (q3930, .inl (cyI, 41, .inl (fun _ => 0)))] H := hP
  have hD : va_D A [(q3916, .inr (5, [.ref q3924, .ref q3925, .ref q3926, .ref q3927, .ref q3928, .ref q3929, .ref q3930, .int 0, .int 0, .int 0, .int 0, .int 0, .int 0])), (q3924, .inl (cyI, 6, .inl (fun _ => 0))), (q3925, .inl (cyI, 8, .inl (fun _ => 0))), (q3926, .inl (cyI, 8, .inl (fun _ => 0))), (q3927, .inl (cyI, 328, .inl (fun _ => 0))), (q3928, .inl (cyI, 328, .inl (fun _ => 0))), (q3929, .inl (cyI, 41, .inl (fun _ => 0))), (q3930, .inl (cyI, 41, .inl (fun _ => 0)))] := hD
  refine lv_aload_n hx hb dX5_init_62 rfl (lv_at hl 0 rfl) ?_
  refine lv_iconst (v := (-1)) hx hb dX5_init_63 (by decide) ?_
  refine va_put (D := (dC, dI)) (ci := 5) (v := .int (-1)) (ty := .int) (C := RX5) (T := TX5) (N := 13) hx hb hts hi5 tyX5 tyX5_ok nmX5 hown hK hP hD hS 0 rfl rfl 8 (by decide) (hts _ (ow_m (k := 11) rfl)) (fun _ h9 => h9) rfl (by decide +kernel) rfl rfl (Nat.le_of_ble_eq_true rfl) dX5_init_64 (fun H locs hP hD hS => ?_)
  have hP : va_P (dC, dI) vwCl [(q3916, .inr (5, [.ref q3924, .ref q3925, .ref q3926, .ref q3927, .ref q3928, .ref q3929, .ref q3930, .int 0, .int (-1), .int 0, .int 0, .int 0, .int 0])), (q3924, .inl (cyI, 6, .inl (fun _ => 0))), (q3925, .inl (cyI, 8, .inl (fun _ => 0))), (q3926, .inl (cyI, 8, .inl (fun _ => 0))), (q3927, .inl (cyI, 328, .inl (fun _ => 0))), (q3928, .inl (cyI, 328, .inl (fun _ => 0))), (q3929, .inl (cyI, 41, .inl (fun _ => 0))), (q3930, .inl (cyI, 41, .inl (fun _ => 0)))] H := hP
  have hD : va_D A [(q3916, .inr (5, [.ref q3924, .ref q3925, .ref q3926, .ref q3927, .ref q3928, .ref q3929, .ref q3930, .int 0, .int (-1), .int 0, .int 0, .int 0, .int 0])), (q3924, .inl (cyI, 6, .inl (fun _ => 0))), (q3925, .inl (cyI, 8, .inl (fun _ => 0))), (q3926, .inl (cyI, 8, .inl (fun _ => 0))), (q3927, .inl (cyI, 328, .inl (fun _ => 0))), (q3928, .inl (cyI, 328, .inl (fun _ => 0))), (q3929, .inl (cyI, 41, .inl (fun _ => 0))), (q3930, .inl (cyI, 41, .inl (fun _ => 0)))] := hD
  exact W.vret hx hb hr (fun t ht hW => ⟨⟨(fun k => match k with | 0 => q3924 | 1 => q3925 | 2 => q3926 | 3 => q3927 | 4 => q3928 | 5 => q3929 | _ => q3930), rfl, trivial, cE.of ht hP hD [0, 1, 2, 3, 4, 5, 6, 7] (by decide) rfl⟩, hS.F ht⟩) hS.2.2 dX5_init_67
def wo_k_X5_init_v11 : List Cond := [.methodLink RX5 3 objectInit, .instanceMethod objectInit, .code objectInit ⟨#[0xb1]⟩ 1 none, .arrayClass .int, .fieldLink RX5 9 "ReplicaChain$State" "row" "[I", .fieldLink RX5 15 "ReplicaChain$State" "has" "[I", .fieldLink RX5 18 "ReplicaChain$State" "clean" "[I", .fieldLink RX5 21 "ReplicaChain$State" "downDue" "[I", .fieldLink RX5 24 "ReplicaChain$State" "upDue" "[I", .fieldLink RX5 27 "ReplicaChain$State" "keys" "[I", .fieldLink RX5 30 "ReplicaChain$State" "values" "[I", .fieldLink RX5 33 "ReplicaChain$State" "copier" "I"]
def wq_k_X5_init_v11 : List Cond := .code yX5_init cX5_init 1 none :: (wo_k_X5_init_v11 ++ (wsX50 ++ []))
theorem gd_k_X5_init_v11 : Gd wq_k_X5_init_v11 := gd_c (gd_a (gd_o (by decide +kernel)) (gd_a gd_u gd_0))
abbrev wc_k_X5_init_v11 (cyB cyI cyJ cyZ cyO : ClassId) (q3933 : Nat) : va_W := [(q3933, .inr (5, [.null, .null, .null, .null, .null, .null, .null, .int 0, .int 0, .int 0, .int 0, .int 0, .int 0]))]
set_option maxHeartbeats 4000000 in
set_option maxRecDepth 100000 in
theorem k_X5_init_v11 (l : Launch) (dC : Nat → ClassId) (dI : Nat → Nat → Nat) (cyB cyI cyJ cyZ cyO : ClassId) (q3933 : Nat) (sz : Nat) : Met l yX5_init wq_k_X5_init_v11 ({ frames := 1, cells := 7, slots := 760, locals := 20 }) (va_Pc [.ref q3933] (cB (dC, dI) (kT cyB cyI cyJ cyZ cyO) (wc_k_X5_init_v11 cyB cyI cyJ cyZ cyO q3933) sz)) (va_Qv (fun _ => True) (fun (u : Nat → Nat) t => cE (dC, dI) (va_A (wc_k_X5_init_v11 cyB cyI cyJ cyZ cyO q3933) sz) ([(q3933, .inr (5, [.ref (u 0), .ref (u 1), .ref (u 2), .ref (u 3), .ref (u 4), .ref (u 5), .ref (u 6), .int 0, .int (-1), .int 0, .int 0, .int 0, .int 0])), (u 0, .inl (cyI, 6, .inl (fun _ => 0))), (u 1, .inl (cyI, 8, .inl (fun _ => 0))), (u 2, .inl (cyI, 8, .inl (fun _ => 0))), (u 3, .inl (cyI, 328, .inl (fun _ => 0))), (u 4, .inl (cyI, 328, .inl (fun _ => 0))), (u 5, .inl (cyI, 41, .inl (fun _ => 0))), (u 6, .inl (cyI, 41, .inl (fun _ => 0)))]) t.heap) (va_A (wc_k_X5_init_v11 cyB cyI cyJ cyZ cyO q3933) sz)) 7 760 (va_A (wc_k_X5_init_v11 cyB cyI cyJ cyZ cyO q3933) sz) := by
  refine Met.ofW (cc := cX5_init) (maxL := 1) (ret := none) (by decide) rfl ?_
  intro p e s m args below meth c s₁ B hml hv
  obtain ⟨rfl, hsz, hP, hKN, hD0⟩ := hv
  have hx := B.exec
  have hb := B.bytes
  have hr := B.returns
  have hts := atoms_spec (ws := wq_k_X5_init_v11) B.pre
  have hown : s.vm.findClass RX5 = some m.cls := findClass_of_methodNamed B.named
  have hlocks := B.notSynchronized
  have hin : meth.name = "<init>" := (name_of_methodNamed B.named B.method).1
  have hK := hKN.1
  have hfix : CallFix p m c cX5_init 1 s [.ref q3933].toArray wq_k_X5_init_v11 RX5 := ⟨hx, hb, hml, hown, hts⟩
  have hi5 : ∀ w ∈ wsX50, w ∈ wq_k_X5_init_v11 := (sb_c sb_l)
  subst hsz
  have hD := hD0.self (sz := s.heap.size)
  generalize hAe : va_A (wc_k_X5_init_v11 cyB cyI cyJ cyZ cyO q3933) s.heap.size = A at hD ⊢
  have hA : ∀ q : Nat, s.heap.size ≤ q → A q := fun q h => by rw [← hAe]; exact Or.inr h
  have hS : va_S A s.heap s.heap [] := va_S.rf
  have hl := lv_entry ([.ref q3933]) (n := 1) (Nat.le_of_ble_eq_true rfl)
  rw [lg_entry_eq]
  generalize (lg_sl ([.ref q3933]) ++ List.replicate (1 - (lg_sl ([.ref q3933])).length) Slot.unset).toArray = ls at hl ⊢
  have hl : lv_has ls 1 [(0, .ref q3933)] := hl
  refine lv_aload_n hx hb dX5_init_0 rfl (lv_at hl 0 rfl) ?_
  refine W.objInit hx hb hown (hts _ (ow_m (k := 0) rfl)) (hts _ (ow_m (k := 1) rfl)) (hts _ (ow_m (k := 2) rfl)) rfl (by rw [hml]; exact hl.1) rfl dX5_init_1 (Nat.le_of_ble_eq_true rfl) (Nat.le_of_ble_eq_true rfl) ?_
  refine W.eq (g2 := F0 m 4 ls []) rfl ?_
  refine lv_aload_n hx hb dX5_init_4 rfl (lv_at hl 0 rfl) ?_
  refine lv_bipush (v := 6) hx hb dX5_init_5 (by decide) ?_
  refine g_newa (a0 := (6, .inl (fun _ => 0))) hx hb (hts _ (ow_m (k := 3) rfl)) rfl hKN hP hD hS hA 1 rfl rfl (fun _ => rfl) (by decide) (by decide) (by decide) (Nat.le_of_ble_eq_true rfl) (Nat.le_of_ble_eq_true rfl) dX5_init_7 (fun q3941 H hP hD hS => ?_)
  have hP : va_P (dC, dI) vwCl [(q3933, .inr (5, [.null, .null, .null, .null, .null, .null, .null, .int 0, .int 0, .int 0, .int 0, .int 0, .int 0])), (q3941, .inl (cyI, 6, .inl (fun _ => 0)))] H := hP
  have hD : va_D A [(q3933, .inr (5, [.null, .null, .null, .null, .null, .null, .null, .int 0, .int 0, .int 0, .int 0, .int 0, .int 0])), (q3941, .inl (cyI, 6, .inl (fun _ => 0)))] := hD
  refine W.widen (k := 1) (n := 6) (by omega) (by omega) ?_
  refine va_putF (D := (dC, dI)) (ci := 5) (v := .ref q3941) (ty := .array .int) (C := RX5) (T := TX5) (N := 13) hx hb hts hi5 tyX5 tyX5_ok nmX5 hown hK hP hD hS 0 rfl rfl 0 (by decide) (hts _ (ow_m (k := 4) rfl)) (fun _ h9 => h9) rfl hin rfl (by decide +kernel) rfl rfl (Nat.le_of_ble_eq_true rfl) dX5_init_9 (fun H locs hP hD hS => ?_)
  have hP : va_P (dC, dI) vwCl [(q3933, .inr (5, [.ref q3941, .null, .null, .null, .null, .null, .null, .int 0, .int 0, .int 0, .int 0, .int 0, .int 0])), (q3941, .inl (cyI, 6, .inl (fun _ => 0)))] H := hP
  have hD : va_D A [(q3933, .inr (5, [.ref q3941, .null, .null, .null, .null, .null, .null, .int 0, .int 0, .int 0, .int 0, .int 0, .int 0])), (q3941, .inl (cyI, 6, .inl (fun _ => 0)))] := hD
  refine lv_aload_n hx hb dX5_init_12 rfl (lv_at hl 0 rfl) ?_
  refine lv_bipush (v := 8) hx hb dX5_init_13 (by decide) ?_
  refine g_newa (a0 := (8, .inl (fun _ => 0))) hx hb (hts _ (ow_m (k := 3) rfl)) rfl hKN hP hD hS hA 1 rfl rfl (fun _ => rfl) (by decide) (by decide) (by decide) (Nat.le_of_ble_eq_true rfl) (Nat.le_of_ble_eq_true rfl) dX5_init_15 (fun q3942 H hP hD hS => ?_)
  have hP : va_P (dC, dI) vwCl [(q3933, .inr (5, [.ref q3941, .null, .null, .null, .null, .null, .null, .int 0, .int 0, .int 0, .int 0, .int 0, .int 0])), (q3941, .inl (cyI, 6, .inl (fun _ => 0))), (q3942, .inl (cyI, 8, .inl (fun _ => 0)))] H := hP
  have hD : va_D A [(q3933, .inr (5, [.ref q3941, .null, .null, .null, .null, .null, .null, .int 0, .int 0, .int 0, .int 0, .int 0, .int 0])), (q3941, .inl (cyI, 6, .inl (fun _ => 0))), (q3942, .inl (cyI, 8, .inl (fun _ => 0)))] := hD
  refine W.widen (k := 2) (n := 14) (by omega) (by omega) ?_
  refine va_putF (D := (dC, dI)) (ci := 5) (v := .ref q3942) (ty := .array .int) (C := RX5) (T := TX5) (N := 13) hx hb hts hi5 tyX5 tyX5_ok nmX5 hown hK hP hD hS 0 rfl rfl 1 (by decide) (hts _ (ow_m (k := 5) rfl)) (fun _ h9 => h9) rfl hin rfl (by decide +kernel) rfl rfl (Nat.le_of_ble_eq_true rfl) dX5_init_17 (fun H locs hP hD hS => ?_)
  have hP : va_P (dC, dI) vwCl [(q3933, .inr (5, [.ref q3941, .ref q3942, .null, .null, .null, .null, .null, .int 0, .int 0, .int 0, .int 0, .int 0, .int 0])), (q3941, .inl (cyI, 6, .inl (fun _ => 0))), (q3942, .inl (cyI, 8, .inl (fun _ => 0)))] H := hP
  have hD : va_D A [(q3933, .inr (5, [.ref q3941, .ref q3942, .null, .null, .null, .null, .null, .int 0, .int 0, .int 0, .int 0, .int 0, .int 0])), (q3941, .inl (cyI, 6, .inl (fun _ => 0))), (q3942, .inl (cyI, 8, .inl (fun _ => 0)))] := hD
  refine lv_aload_n hx hb dX5_init_20 rfl (lv_at hl 0 rfl) ?_
  refine lv_bipush (v := 8) hx hb dX5_init_21 (by decide) ?_
  refine g_newa (a0 := (8, .inl (fun _ => 0))) hx hb (hts _ (ow_m (k := 3) rfl)) rfl hKN hP hD hS hA 1 rfl rfl (fun _ => rfl) (by decide) (by decide) (by decide) (Nat.le_of_ble_eq_true rfl) (Nat.le_of_ble_eq_true rfl) dX5_init_23 (fun q3943 H hP hD hS => ?_)
  have hP : va_P (dC, dI) vwCl [(q3933, .inr (5, [.ref q3941, .ref q3942, .null, .null, .null, .null, .null, .int 0, .int 0, .int 0, .int 0, .int 0, .int 0])), (q3941, .inl (cyI, 6, .inl (fun _ => 0))), (q3942, .inl (cyI, 8, .inl (fun _ => 0))), (q3943, .inl (cyI, 8, .inl (fun _ => 0)))] H := hP
  have hD : va_D A [(q3933, .inr (5, [.ref q3941, .ref q3942, .null, .null, .null, .null, .null, .int 0, .int 0, .int 0, .int 0, .int 0, .int 0])), (q3941, .inl (cyI, 6, .inl (fun _ => 0))), (q3942, .inl (cyI, 8, .inl (fun _ => 0))), (q3943, .inl (cyI, 8, .inl (fun _ => 0)))] := hD
  refine W.widen (k := 3) (n := 22) (by omega) (by omega) ?_
  refine va_putF (D := (dC, dI)) (ci := 5) (v := .ref q3943) (ty := .array .int) (C := RX5) (T := TX5) (N := 13) hx hb hts hi5 tyX5 tyX5_ok nmX5 hown hK hP hD hS 0 rfl rfl 2 (by decide) (hts _ (ow_m (k := 6) rfl)) (fun _ h9 => h9) rfl hin rfl (by decide +kernel) rfl rfl (Nat.le_of_ble_eq_true rfl) dX5_init_25 (fun H locs hP hD hS => ?_)
  have hP : va_P (dC, dI) vwCl [(q3933, .inr (5, [.ref q3941, .ref q3942, .ref q3943, .null, .null, .null, .null, .int 0, .int 0, .int 0, .int 0, .int 0, .int 0])), (q3941, .inl (cyI, 6, .inl (fun _ => 0))), (q3942, .inl (cyI, 8, .inl (fun _ => 0))), (q3943, .inl (cyI, 8, .inl (fun _ => 0)))] H := hP
  have hD : va_D A [(q3933, .inr (5, [.ref q3941, .ref q3942, .ref q3943, .null, .null, .null, .null, .int 0, .int 0, .int 0, .int 0, .int 0, .int 0])), (q3941, .inl (cyI, 6, .inl (fun _ => 0))), (q3942, .inl (cyI, 8, .inl (fun _ => 0))), (q3943, .inl (cyI, 8, .inl (fun _ => 0)))] := hD
  refine lv_aload_n hx hb dX5_init_28 rfl (lv_at hl 0 rfl) ?_
  refine lv_sipush (v := 328) hx hb dX5_init_29 (by decide) ?_
  refine g_newa (a0 := (328, .inl (fun _ => 0))) hx hb (hts _ (ow_m (k := 3) rfl)) rfl hKN hP hD hS hA 1 rfl rfl (fun _ => rfl) (by decide) (by decide) (by decide) (Nat.le_of_ble_eq_true rfl) (Nat.le_of_ble_eq_true rfl) dX5_init_32 (fun q3944 H hP hD hS => ?_)
  have hP : va_P (dC, dI) vwCl [(q3933, .inr (5, [.ref q3941, .ref q3942, .ref q3943, .null, .null, .null, .null, .int 0, .int 0, .int 0, .int 0, .int 0, .int 0])), (q3941, .inl (cyI, 6, .inl (fun _ => 0))), (q3942, .inl (cyI, 8, .inl (fun _ => 0))), (q3943, .inl (cyI, 8, .inl (fun _ => 0))), (q3944, .inl (cyI, 328, .inl (fun _ => 0)))] H := hP
  have hD : va_D A [(q3933, .inr (5, [.ref q3941, .ref q3942, .ref q3943, .null, .null, .null, .null, .int 0, .int 0, .int 0, .int 0, .int 0, .int 0])), (q3941, .inl (cyI, 6, .inl (fun _ => 0))), (q3942, .inl (cyI, 8, .inl (fun _ => 0))), (q3943, .inl (cyI, 8, .inl (fun _ => 0))), (q3944, .inl (cyI, 328, .inl (fun _ => 0)))] := hD
  refine W.widen (k := 4) (n := 350) (by omega) (by omega) ?_
  refine va_putF (D := (dC, dI)) (ci := 5) (v := .ref q3944) (ty := .array .int) (C := RX5) (T := TX5) (N := 13) hx hb hts hi5 tyX5 tyX5_ok nmX5 hown hK hP hD hS 0 rfl rfl 3 (by decide) (hts _ (ow_m (k := 7) rfl)) (fun _ h9 => h9) rfl hin rfl (by decide +kernel) rfl rfl (Nat.le_of_ble_eq_true rfl) dX5_init_34 (fun H locs hP hD hS => ?_)
  have hP : va_P (dC, dI) vwCl [(q3933, .inr (5, [.ref q3941, .ref q3942, .ref q3943, .ref q3944, .null, .null, .null, .int 0, .int 0, .int 0, .int 0, .int 0, .int 0])), (q3941, .inl (cyI, 6, .inl (fun _ => 0))), (q3942, .inl (cyI, 8, .inl (fun _ => 0))), (q3943, .inl (cyI, 8, .inl (fun _ => 0))), (q3944, .inl (cyI, 328, .inl (fun _ => 0)))] H := hP
  have hD : va_D A [(q3933, .inr (5, [.ref q3941, .ref q3942, .ref q3943, .ref q3944, .null, .null, .null, .int 0, .int 0, .int 0, .int 0, .int 0, .int 0])), (q3941, .inl (cyI, 6, .inl (fun _ => 0))), (q3942, .inl (cyI, 8, .inl (fun _ => 0))), (q3943, .inl (cyI, 8, .inl (fun _ => 0))), (q3944, .inl (cyI, 328, .inl (fun _ => 0)))] := hD
  refine lv_aload_n hx hb dX5_init_37 rfl (lv_at hl 0 rfl) ?_
  refine lv_sipush (v := 328) hx hb dX5_init_38 (by decide) ?_
  refine g_newa (a0 := (328, .inl (fun _ => 0))) hx hb (hts _ (ow_m (k := 3) rfl)) rfl hKN hP hD hS hA 1 rfl rfl (fun _ => rfl) (by decide) (by decide) (by decide) (Nat.le_of_ble_eq_true rfl) (Nat.le_of_ble_eq_true rfl) dX5_init_41 (fun q3945 H hP hD hS => ?_)
  have hP : va_P (dC, dI) vwCl [(q3933, .inr (5, [.ref q3941, .ref q3942, .ref q3943, .ref q3944, .null, .null, .null, .int 0, .int 0, .int 0, .int 0, .int 0, .int 0])), (q3941, .inl (cyI, 6, .inl (fun _ => 0))), (q3942, .inl (cyI, 8, .inl (fun _ => 0))), (q3943, .inl (cyI, 8, .inl (fun _ => 0))), (q3944, .inl (cyI, 328, .inl (fun _ => 0))), (q3945, .inl (cyI, 328, .inl (fun _ => 0)))] H := hP
  have hD : va_D A [(q3933, .inr (5, [.ref q3941, .ref q3942, .ref q3943, .ref q3944, .null, .null, .null, .int 0, .int 0, .int 0, .int 0, .int 0, .int 0])), (q3941, .inl (cyI, 6, .inl (fun _ => 0))), (q3942, .inl (cyI, 8, .inl (fun _ => 0))), (q3943, .inl (cyI, 8, .inl (fun _ => 0))), (q3944, .inl (cyI, 328, .inl (fun _ => 0))), (q3945, .inl (cyI, 328, .inl (fun _ => 0)))] := hD
  refine W.widen (k := 5) (n := 678) (by omega) (by omega) ?_
  refine va_putF (D := (dC, dI)) (ci := 5) (v := .ref q3945) (ty := .array .int) (C := RX5) (T := TX5) (N := 13) hx hb hts hi5 tyX5 tyX5_ok nmX5 hown hK hP hD hS 0 rfl rfl 4 (by decide) (hts _ (ow_m (k := 8) rfl)) (fun _ h9 => h9) rfl hin rfl (by decide +kernel) rfl rfl (Nat.le_of_ble_eq_true rfl) dX5_init_43 (fun H locs hP hD hS => ?_)
  have hP : va_P (dC, dI) vwCl [(q3933, .inr (5, [.ref q3941, .ref q3942, .ref q3943, .ref q3944, .ref q3945, .null, .null, .int 0, .int 0, .int 0, .int 0, .int 0, .int 0])), (q3941, .inl (cyI, 6, .inl (fun _ => 0))), (q3942, .inl (cyI, 8, .inl (fun _ => 0))), (q3943, .inl (cyI, 8, .inl (fun _ => 0))), (q3944, .inl (cyI, 328, .inl (fun _ => 0))), (q3945, .inl (cyI, 328, .inl (fun _ => 0)))] H := hP
  have hD : va_D A [(q3933, .inr (5, [.ref q3941, .ref q3942, .ref q3943, .ref q3944, .ref q3945, .null, .null, .int 0, .int 0, .int 0, .int 0, .int 0, .int 0])), (q3941, .inl (cyI, 6, .inl (fun _ => 0))), (q3942, .inl (cyI, 8, .inl (fun _ => 0))), (q3943, .inl (cyI, 8, .inl (fun _ => 0))), (q3944, .inl (cyI, 328, .inl (fun _ => 0))), (q3945, .inl (cyI, 328, .inl (fun _ => 0)))] := hD
  refine lv_aload_n hx hb dX5_init_46 rfl (lv_at hl 0 rfl) ?_
  refine lv_bipush (v := 41) hx hb dX5_init_47 (by decide) ?_
  refine g_newa (a0 := (41, .inl (fun _ => 0))) hx hb (hts _ (ow_m (k := 3) rfl)) rfl hKN hP hD hS hA 1 rfl rfl (fun _ => rfl) (by decide) (by decide) (by decide) (Nat.le_of_ble_eq_true rfl) (Nat.le_of_ble_eq_true rfl) dX5_init_49 (fun q3946 H hP hD hS => ?_)
  have hP : va_P (dC, dI) vwCl [(q3933, .inr (5, [.ref q3941, .ref q3942, .ref q3943, .ref q3944, .ref q3945, .null, .null, .int 0, .int 0, .int 0, .int 0, .int 0, .int 0])), (q3941, .inl (cyI, 6, .inl (fun _ => 0))), (q3942, .inl (cyI, 8, .inl (fun _ => 0))), (q3943, .inl (cyI, 8, .inl (fun _ => 0))), (q3944, .inl (cyI, 328, .inl (fun _ => 0))), (q3945, .inl (cyI, 328, .inl (fun _ => 0))), (q3946, .inl (cyI, 41, .inl (fun _ => 0)))] H := hP
  have hD : va_D A [(q3933, .inr (5, [.ref q3941, .ref q3942, .ref q3943, .ref q3944, .ref q3945, .null, .null, .int 0, .int 0, .int 0, .int 0, .int 0, .int 0])), (q3941, .inl (cyI, 6, .inl (fun _ => 0))), (q3942, .inl (cyI, 8, .inl (fun _ => 0))), (q3943, .inl (cyI, 8, .inl (fun _ => 0))), (q3944, .inl (cyI, 328, .inl (fun _ => 0))), (q3945, .inl (cyI, 328, .inl (fun _ => 0))), (q3946, .inl (cyI, 41, .inl (fun _ => 0)))] := hD
  refine W.widen (k := 6) (n := 719) (by omega) (by omega) ?_
  refine va_putF (D := (dC, dI)) (ci := 5) (v := .ref q3946) (ty := .array .int) (C := RX5) (T := TX5) (N := 13) hx hb hts hi5 tyX5 tyX5_ok nmX5 hown hK hP hD hS 0 rfl rfl 5 (by decide) (hts _ (ow_m (k := 9) rfl)) (fun _ h9 => h9) rfl hin rfl (by decide +kernel) rfl rfl (Nat.le_of_ble_eq_true rfl) dX5_init_51 (fun H locs hP hD hS => ?_)
  have hP : va_P (dC, dI) vwCl [(q3933, .inr (5, [.ref q3941, .ref q3942, .ref q3943, .ref q3944, .ref q3945, .ref q3946, .null, .int 0, .int 0, .int 0, .int 0, .int 0, .int 0])), (q3941, .inl (cyI, 6, .inl (fun _ => 0))), (q3942, .inl (cyI, 8, .inl (fun _ => 0))), (q3943, .inl (cyI, 8, .inl (fun _ => 0))), (q3944, .inl (cyI, 328, .inl (fun _ => 0))), (q3945, .inl (cyI, 328, .inl (fun _ => 0))), (q3946, .inl (cyI, 41, .inl (fun _ => 0)))] H := hP
  have hD : va_D A [(q3933, .inr (5, [.ref q3941, .ref q3942, .ref q3943, .ref q3944, .ref q3945, .ref q3946, .null, .int 0, .int 0, .int 0, .int 0, .int 0, .int 0])), (q3941, .inl (cyI, 6, .inl (fun _ => 0))), (q3942, .inl (cyI, 8, .inl (fun _ => 0))), (q3943, .inl (cyI, 8, .inl (fun _ => 0))), (q3944, .inl (cyI, 328, .inl (fun _ => 0))), (q3945, .inl (cyI, 328, .inl (fun _ => 0))), (q3946, .inl (cyI, 41, .inl (fun _ => 0)))] := hD
  refine lv_aload_n hx hb dX5_init_54 rfl (lv_at hl 0 rfl) ?_
  refine lv_bipush (v := 41) hx hb dX5_init_55 (by decide) ?_
  refine g_newa (a0 := (41, .inl (fun _ => 0))) hx hb (hts _ (ow_m (k := 3) rfl)) rfl hKN hP hD hS hA 1 rfl rfl (fun _ => rfl) (by decide) (by decide) (by decide) (Nat.le_of_ble_eq_true rfl) (Nat.le_of_ble_eq_true rfl) dX5_init_57 (fun q3947 H hP hD hS => ?_)
  have hP : va_P (dC, dI) vwCl [(q3933, .inr (5, [.ref q3941, .ref q3942, .ref q3943, .ref q3944, .ref q3945, .ref q3946, .null, .int 0, .int 0, .int 0, .int 0, .int 0, .int 0])), (q3941, .inl (cyI, 6, .inl (fun _ => 0))), (q3942, .inl (cyI, 8, .inl (fun _ => 0))), (q3943, .inl (cyI, 8, .inl (fun _ => 0))), (q3944, .inl (cyI, 328, .inl (fun _ => 0))), (q3945, .inl (cyI, 328, .inl (fun _ => 0))), (q3946, .inl (cyI, 41, .inl (fun _ => 0))), (q3947, .inl (cyI, 41, .inl (fun _ => 0)))] H := hP
  have hD : va_D A [(q3933, .inr (5, [.ref q3941, .ref q3942, .ref q3943, .ref q3944, .ref q3945, .ref q3946, .null, .int 0, .int 0, .int 0, .int 0, .int 0, .int 0])), (q3941, .inl (cyI, 6, .inl (fun _ => 0))), (q3942, .inl (cyI, 8, .inl (fun _ => 0))), (q3943, .inl (cyI, 8, .inl (fun _ => 0))), (q3944, .inl (cyI, 328, .inl (fun _ => 0))), (q3945, .inl (cyI, 328, .inl (fun _ => 0))), (q3946, .inl (cyI, 41, .inl (fun _ => 0))), (q3947, .inl (cyI, 41, .inl (fun _ => 0)))] := hD
  refine W.widen (k := 7) (n := 760) (by omega) (by omega) ?_
  refine va_putF (D := (dC, dI)) (ci := 5) (v := .ref q3947) (ty := .array .int) (C := RX5) (T := TX5) (N := 13) hx hb hts hi5 tyX5 tyX5_ok nmX5 hown hK hP hD hS 0 rfl rfl 6 (by decide) (hts _ (ow_m (k := 10) rfl)) (fun _ h9 => h9) rfl hin rfl (by decide +kernel) rfl rfl (Nat.le_of_ble_eq_true rfl) dX5_init_59 (fun H locs hP hD hS => ?_)
  have hP : va_P (dC, dI) vwCl [(q3933, .inr (5, [.ref q3941, .ref q3942, .ref q3943, .ref q3944, .ref q3945, .ref q3946, .ref q3947, .int 0, .int 0, .int 0, .int 0, .int 0, .int 0])), (q3941, .inl (cyI, 6, .inl (fun _ => 0))), (q3942, .inl (cyI, 8, .inl (fun _ => 0))), (q3943, .inl (cyI, 8, .inl (fun _ => 0))), (q3944, .inl (cyI, 328, .inl (fun _ => 0))), (q3945, .inl (cyI, 328, .inl (fun _ => 0))), (q3946, .inl (cyI, 41, .inl (fun _ => 0))), (q3947, .inl (cyI, 41, .inl (fun _ => 0)))] H := hP
  have hD : va_D A [(q3933, .inr (5, [.ref q3941, .ref q3942, .ref q3943, .ref q3944, .ref q3945, .ref q3946, .ref q3947, .int 0, .int 0, .int 0, .int 0, .int 0, .int 0])), (q3941, .inl (cyI, 6, .inl (fun _ => 0))), (q3942, .inl (cyI, 8, .inl (fun _ => 0))), (q3943, .inl (cyI, 8, .inl (fun _ => 0))), (q3944, .inl (cyI, 328, .inl (fun _ => 0))), (q3945, .inl (cyI, 328, .inl (fun _ => 0))), (q3946, .inl (cyI, 41, .inl (fun _ => 0))), (q3947, .inl (cyI, 41, .inl (fun _ => 0)))] := hD
  refine lv_aload_n hx hb dX5_init_62 rfl (lv_at hl 0 rfl) ?_
  refine lv_iconst (v := (-1)) hx hb dX5_init_63 (by decide) ?_
  refine va_put (D := (dC, dI)) (ci := 5) (v := .int (-1)) (ty := .int) (C := RX5) (T := TX5) (N := 13) hx hb hts hi5 tyX5 tyX5_ok nmX5 hown hK hP hD hS 0 rfl rfl 8 (by decide) (hts _ (ow_m (k := 11) rfl)) (fun _ h9 => h9) rfl (by decide +kernel) rfl rfl (Nat.le_of_ble_eq_true rfl) dX5_init_64 (fun H locs hP hD hS => ?_)
  have hP : va_P (dC, dI) vwCl [(q3933, .inr (5, [.ref q3941, .ref q3942, .ref q3943, .ref q3944, .ref q3945, .ref q3946, .ref q3947, .int 0, .int (-1), .int 0, .int 0, .int 0, .int 0])), (q3941, .inl (cyI, 6, .inl (fun _ => 0))), (q3942, .inl (cyI, 8, .inl (fun _ => 0))), (q3943, .inl (cyI, 8, .inl (fun _ => 0))), (q3944, .inl (cyI, 328, .inl (fun _ => 0))), (q3945, .inl (cyI, 328, .inl (fun _ => 0))), (q3946, .inl (cyI, 41, .inl (fun _ => 0))), (q3947, .inl (cyI, 41, .inl (fun _ => 0)))] H := hP
  have hD : va_D A [(q3933, .inr (5, [.ref q3941, .ref q3942, .ref q3943, .ref q3944, .ref q3945, .ref q3946, .ref q3947, .int 0, .int (-1), .int 0, .int 0, .int 0, .int 0])), (q3941, .inl (cyI, 6, .inl (fun _ => 0))), (q3942, .inl (cyI, 8, .inl (fun _ => 0))), (q3943, .inl (cyI, 8, .inl (fun _ => 0))), (q3944, .inl (cyI, 328, .inl (fun _ => 0))), (q3945, .inl (cyI, 328, .inl (fun _ => 0))), (q3946, .inl (cyI, 41, .inl (fun _ => 0))), (q3947, .inl (cyI, 41, .inl (fun _ => 0)))] := hD
  exact W.vret hx hb hr (fun t ht hW => ⟨⟨(fun k => match k with | 0 => q3941 | 1 => q3942 | 2 => q3943 | 3 => q3944 | 4 => q3945 | 5 => q3946 | _ => q3947), rfl, trivial, cE.of ht hP hD [0, 1, 2, 3, 4, 5, 6, 7] (by decide) rfl⟩, hS.F ht⟩) hS.2.2 dX5_init_67
def wo_k_X6_stateAt_v2 : List Cond := [.fieldLink RX6 43 "ReplicaChain" "kept" "[LReplicaChain$State;", .classLink RX6 41 RX5, .instantiable RX5 13, .initialized RX5, .instanceMethod yX5_init]
def wq_k_X6_stateAt_v2 : List Cond := .code yX6_stateAt cX6_stateAt 3 (some (.object "ReplicaChain$State")) :: (wo_k_X6_stateAt_v2 ++ (wq_k_X5_init_v11 ++ (wsX50 ++ (wsX60 ++ []))))
theorem gd_k_X6_stateAt_v2 : Gd wq_k_X6_stateAt_v2 := gd_c (gd_a (gd_o (by decide +kernel)) (gd_a gd_k_X5_init_v11 (gd_a gd_u (gd_a gd_u gd_0))))
abbrev wc_k_X6_stateAt_v2 (cyB cyI cyJ cyZ cyO : ClassId) (h0 : Nat) (q3795 : Nat) (q3796 : Nat) (q3835 : Nat) (q3874 : Nat) (q3877 : Nat) (q3880 : Nat) (q3881 : Nat) (q3898 : Nat) (q3899 : Nat) (q3900 : Nat) (q3901 : Nat) (q3902 : Nat) (q3913 : Nat) : va_W := [(h0, .inr (6, [.ref q3795, .int 0, .ref q3796, .ref q3835, .ref q3874, .ref q3877, .ref q3880, .int 0, .int 0, .null, .ref q3881, .ref q3898, .ref q3899, .ref q3900, .int 0, .ref q3901, .int 0, .ref q3902, .ref q3913, .int 0])), (q3880, .inl (cyO, 41, .inr (.inr (.inr (.inr (fun _ => none))))))]
set_option maxHeartbeats 4000000 in
set_option maxRecDepth 100000 in
theorem k_X6_stateAt_v2 (l : Launch) (dC : Nat → ClassId) (dI : Nat → Nat → Nat) (cyB cyI cyJ cyZ cyO : ClassId) (h0 : Nat) (q3795 : Nat) (q3796 : Nat) (q3835 : Nat) (q3874 : Nat) (q3877 : Nat) (q3880 : Nat) (q3881 : Nat) (q3898 : Nat) (q3899 : Nat) (q3900 : Nat) (q3901 : Nat) (q3902 : Nat) (q3913 : Nat) (sz : Nat) : Met l yX6_stateAt wq_k_X6_stateAt_v2 ({ frames := 2, cells := 8, slots := 773, locals := 40 }) (va_Pc [.ref h0, .int 0] (cB (dC, dI) (kT cyB cyI cyJ cyZ cyO) (wc_k_X6_stateAt_v2 cyB cyI cyJ cyZ cyO h0 q3795 q3796 q3835 q3874 q3877 q3880 q3881 q3898 q3899 q3900 q3901 q3902 q3913) sz)) (va_Qr (fun _ => True) (fun (u : Nat → Nat) (ra : Nat) t => ra = u 0 ∧ cE (dC, dI) (va_A (wc_k_X6_stateAt_v2 cyB cyI cyJ cyZ cyO h0 q3795 q3796 q3835 q3874 q3877 q3880 q3881 q3898 q3899 q3900 q3901 q3902 q3913) sz) ([(h0, .inr (6, [.ref q3795, .int 0, .ref q3796, .ref q3835, .ref q3874, .ref q3877, .ref q3880, .int 0, .int 0, .null, .ref q3881, .ref q3898, .ref q3899, .ref q3900, .int 0, .ref q3901, .int 0, .ref q3902, .ref q3913, .int 0])), (q3880, .inl (cyO, 41, .inr (.inr (.inr (.inr (va_up (fun _ => none) 0 (some (u 0)))))))), (u 0, .inr (5, [.ref (u 1), .ref (u 2), .ref (u 3), .ref (u 4), .ref (u 5), .ref (u 6), .ref (u 7), .int 0, .int (-1), .int 0, .int 0, .int 0, .int 0])), (u 1, .inl (cyI, 6, .inl (fun _ => 0))), (u 2, .inl (cyI, 8, .inl (fun _ => 0))), (u 3, .inl (cyI, 8, .inl (fun _ => 0))), (u 4, .inl (cyI, 328, .inl (fun _ => 0))), (u 5, .inl (cyI, 328, .inl (fun _ => 0))), (u 6, .inl (cyI, 41, .inl (fun _ => 0))), (u 7, .inl (cyI, 41, .inl (fun _ => 0)))]) t.heap) (va_A (wc_k_X6_stateAt_v2 cyB cyI cyJ cyZ cyO h0 q3795 q3796 q3835 q3874 q3877 q3880 q3881 q3898 q3899 q3900 q3901 q3902 q3913) sz)) 8 773 (va_A (wc_k_X6_stateAt_v2 cyB cyI cyJ cyZ cyO h0 q3795 q3796 q3835 q3874 q3877 q3880 q3881 q3898 q3899 q3900 q3901 q3902 q3913) sz) := by
  refine Met.ofW (cc := cX6_stateAt) (maxL := 3) (ret := (some (.object "ReplicaChain$State"))) (by decide) rfl ?_
  intro p e s m args below meth c s₁ B hml hv
  obtain ⟨rfl, hsz, hP, hKN, hD0⟩ := hv
  have hx := B.exec
  have hb := B.bytes
  have hr := B.returns
  have hts := atoms_spec (ws := wq_k_X6_stateAt_v2) B.pre
  have hown : s.vm.findClass RX6 = some m.cls := findClass_of_methodNamed B.named
  have hlocks := B.notSynchronized
  have hK := hKN.1
  have hfix : CallFix p m c cX6_stateAt 3 s [.ref h0, .int 0].toArray wq_k_X6_stateAt_v2 RX6 := ⟨hx, hb, hml, hown, hts⟩
  have hi5 : ∀ w ∈ wsX50, w ∈ wq_k_X6_stateAt_v2 := (sb_c (sb_r sb_l))
  have hi6 : ∀ w ∈ wsX60, w ∈ wq_k_X6_stateAt_v2 := (sb_c (sb_r (sb_r sb_l)))
  subst hsz
  have hD := hD0.self (sz := s.heap.size)
  generalize hAe : va_A (wc_k_X6_stateAt_v2 cyB cyI cyJ cyZ cyO h0 q3795 q3796 q3835 q3874 q3877 q3880 q3881 q3898 q3899 q3900 q3901 q3902 q3913) s.heap.size = A at hD ⊢
  have hA : ∀ q : Nat, s.heap.size ≤ q → A q := fun q h => by rw [← hAe]; exact Or.inr h
  have hS : va_S A s.heap s.heap [] := va_S.rf
  have hl := lv_entry ([.ref h0, .int 0]) (n := 3) (Nat.le_of_ble_eq_true rfl)
  rw [lg_entry_eq]
  generalize (lg_sl ([.ref h0, .int 0]) ++ List.replicate (3 - (lg_sl ([.ref h0, .int 0])).length) Slot.unset).toArray = ls at hl ⊢
  have hl : lv_has ls 3 [(0, .ref h0), (1, .int 0)] := hl
  refine lv_aload_n hx hb dX6_stateAt_0 rfl (lv_at hl 0 rfl) ?_
  refine va_get (D := (dC, dI)) (ci := 6) (v := .ref q3880) (C := RX6) (T := TX6) (N := 20) hx hb hts hi6 hown hK hP 0 rfl rfl 6 (by decide) (hts _ (ow_m (k := 0) rfl)) (fun _ h9 => h9) rfl dX6_stateAt_1 ?_
  refine lv_iload_n hx hb dX6_stateAt_4 rfl (lv_at hl 1 rfl) ?_
  refine va_aldq hx hb hK hP 1 4 rfl rfl (vp_i (a := 0) (by decide) (by decide) (by decide)) dX6_stateAt_5 ?_
  refine tp_v (w := .null) rfl ?_
  refine lv_astore_nN (lv' := [(2, .null), (0, .ref h0), (1, .int 0)]) hx hb dX6_stateAt_6 rfl hl (by decide) rfl (fun ls hl => ?_)
  refine lv_aload_nN hx hb dX6_stateAt_7 rfl (lv_at hl 0 rfl) ?_
  refine lv_ifnonnullN hx hb dX6_stateAt_8 ?_
  refine va_new (ci := 5) (fs := [.null, .null, .null, .null, .null, .null, .null, .int 0, .int 0, .int 0, .int 0, .int 0, .int 0]) (C := RX5) (T := TX5) (N := 13) hx hb hts hi5 tyX5 tyX5_ok hown (hts _ (ow_m (k := 1) rfl)) (hts _ (ow_m (k := 2) rfl)) (hts _ (ow_m (k := 3) rfl)) hK hP hD hS hA rfl (by decide) (Nat.le_of_ble_eq_true rfl) (Nat.le_of_ble_eq_true rfl) dX6_stateAt_11 (fun q3933 H hP hD hS => ?_)
  have hP : va_P (dC, dI) vwCl [(h0, .inr (6, [.ref q3795, .int 0, .ref q3796, .ref q3835, .ref q3874, .ref q3877, .ref q3880, .int 0, .int 0, .null, .ref q3881, .ref q3898, .ref q3899, .ref q3900, .int 0, .ref q3901, .int 0, .ref q3902, .ref q3913, .int 0])), (q3880, .inl (cyO, 41, .inr (.inr (.inr (.inr (fun _ => none)))))), (q3933, .inr (5, [.null, .null, .null, .null, .null, .null, .null, .int 0, .int 0, .int 0, .int 0, .int 0, .int 0]))] H := hP
  have hD : va_D A [(h0, .inr (6, [.ref q3795, .int 0, .ref q3796, .ref q3835, .ref q3874, .ref q3877, .ref q3880, .int 0, .int 0, .null, .ref q3881, .ref q3898, .ref q3899, .ref q3900, .int 0, .ref q3901, .int 0, .ref q3902, .ref q3913, .int 0])), (q3880, .inl (cyO, 41, .inr (.inr (.inr (.inr (fun _ => none)))))), (q3933, .inr (5, [.null, .null, .null, .null, .null, .null, .null, .int 0, .int 0, .int 0, .int 0, .int 0, .int 0]))] := hD
  refine W.widen (k := 1) (n := 13) (by omega) (by omega) ?_
  refine lv_dup hx hb dX6_stateAt_14 rfl ?_
  refine gf_v (wr := [(h0, .inr (6, [.ref q3795, .int 0, .ref q3796, .ref q3835, .ref q3874, .ref q3877, .ref q3880, .int 0, .int 0, .null, .ref q3881, .ref q3898, .ref q3899, .ref q3900, .int 0, .ref q3901, .int 0, .ref q3902, .ref q3913, .int 0])), (q3880, .inl (cyO, 41, .inr (.inr (.inr (.inr (fun _ => none))))))]) (va_runIN (As := []) (rest := [.ref q3933]) hfix (k_X5_init_v11 l dC dI cyB cyI cyJ cyZ cyO q3933 _) ⟨va_cnB 0 hts (gi_I (sb_c sb_l) gd_k_X5_init_v11) rfl rfl rfl hKN.2.2.1 (hts _ (ow_m (k := 3) rfl)) (by decide +kernel) ⟨Nat.le_of_ble_eq_true rfl, Nat.le_of_ble_eq_true rfl⟩, rfl, (hts _ (ow_m (k := 4) rfl))⟩ (g_preS hKN hP hD [2] rfl (by decide)) rfl rfl hl.1 rfl (lv_room (Nat.le_of_ble_eq_true rfl)) dX6_stateAt_15 ⟨Nat.le_of_ble_eq_true rfl, Nat.le_of_ble_eq_true rfl⟩) hP hD hS hA [2] [0, 1] rfl rfl (by decide) (by decide) (fun u3949 H locs qu3949 hP hD hS => ?_)
  have hP : va_P (dC, dI) vwCl [(h0, .inr (6, [.ref q3795, .int 0, .ref q3796, .ref q3835, .ref q3874, .ref q3877, .ref q3880, .int 0, .int 0, .null, .ref q3881, .ref q3898, .ref q3899, .ref q3900, .int 0, .ref q3901, .int 0, .ref q3902, .ref q3913, .int 0])), (q3880, .inl (cyO, 41, .inr (.inr (.inr (.inr (fun _ => none)))))), (q3933, .inr (5, [.ref (u3949 0), .ref (u3949 1), .ref (u3949 2), .ref (u3949 3), .ref (u3949 4), .ref (u3949 5), .ref (u3949 6), .int 0, .int (-1), .int 0, .int 0, .int 0, .int 0])), (u3949 0, .inl (cyI, 6, .inl (fun _ => 0))), (u3949 1, .inl (cyI, 8, .inl (fun _ => 0))), (u3949 2, .inl (cyI, 8, .inl (fun _ => 0))), (u3949 3, .inl (cyI, 328, .inl (fun _ => 0))), (u3949 4, .inl (cyI, 328, .inl (fun _ => 0))), (u3949 5, .inl (cyI, 41, .inl (fun _ => 0))), (u3949 6, .inl (cyI, 41, .inl (fun _ => 0)))] H := hP
  have hD : va_D A [(h0, .inr (6, [.ref q3795, .int 0, .ref q3796, .ref q3835, .ref q3874, .ref q3877, .ref q3880, .int 0, .int 0, .null, .ref q3881, .ref q3898, .ref q3899, .ref q3900, .int 0, .ref q3901, .int 0, .ref q3902, .ref q3913, .int 0])), (q3880, .inl (cyO, 41, .inr (.inr (.inr (.inr (fun _ => none)))))), (q3933, .inr (5, [.ref (u3949 0), .ref (u3949 1), .ref (u3949 2), .ref (u3949 3), .ref (u3949 4), .ref (u3949 5), .ref (u3949 6), .int 0, .int (-1), .int 0, .int 0, .int 0, .int 0])), (u3949 0, .inl (cyI, 6, .inl (fun _ => 0))), (u3949 1, .inl (cyI, 8, .inl (fun _ => 0))), (u3949 2, .inl (cyI, 8, .inl (fun _ => 0))), (u3949 3, .inl (cyI, 328, .inl (fun _ => 0))), (u3949 4, .inl (cyI, 328, .inl (fun _ => 0))), (u3949 5, .inl (cyI, 41, .inl (fun _ => 0))), (u3949 6, .inl (cyI, 41, .inl (fun _ => 0)))] := hD
  refine W.widen (k := 8) (n := 773) (by omega) (by omega) ?_
  refine lv_astore_n (lv' := [(2, .ref q3933), (0, .ref h0), (1, .int 0)]) hx hb dX6_stateAt_18 rfl hl (by decide) rfl (fun ls hl => ?_)
  refine lv_aload_n hx hb dX6_stateAt_19 rfl (lv_at hl 1 rfl) ?_
  refine va_get (D := (dC, dI)) (ci := 6) (v := .ref q3880) (C := RX6) (T := TX6) (N := 20) hx hb hts hi6 hown hK hP 0 rfl rfl 6 (by decide) (hts _ (ow_m (k := 0) rfl)) (fun _ h9 => h9) rfl dX6_stateAt_20 ?_
  refine lv_iload_n hx hb dX6_stateAt_23 rfl (lv_at hl 2 rfl) ?_
  refine lv_aload_n hx hb dX6_stateAt_24 rfl (lv_at hl 0 rfl) ?_
  refine va_astq hx hb hK hP hD hS 1 4 2 5 rfl rfl rfl rfl (vp_i (a := 0) (by decide) (by decide) (by decide)) dX6_stateAt_25 (fun H locs hP hD hS => ?_)
  have hP : va_P (dC, dI) vwCl [(h0, .inr (6, [.ref q3795, .int 0, .ref q3796, .ref q3835, .ref q3874, .ref q3877, .ref q3880, .int 0, .int 0, .null, .ref q3881, .ref q3898, .ref q3899, .ref q3900, .int 0, .ref q3901, .int 0, .ref q3902, .ref q3913, .int 0])), (q3880, .inl (cyO, 41, .inr (.inr (.inr (.inr (va_up (fun _ => none) 0 (some q3933))))))), (q3933, .inr (5, [.ref (u3949 0), .ref (u3949 1), .ref (u3949 2), .ref (u3949 3), .ref (u3949 4), .ref (u3949 5), .ref (u3949 6), .int 0, .int (-1), .int 0, .int 0, .int 0, .int 0])), (u3949 0, .inl (cyI, 6, .inl (fun _ => 0))), (u3949 1, .inl (cyI, 8, .inl (fun _ => 0))), (u3949 2, .inl (cyI, 8, .inl (fun _ => 0))), (u3949 3, .inl (cyI, 328, .inl (fun _ => 0))), (u3949 4, .inl (cyI, 328, .inl (fun _ => 0))), (u3949 5, .inl (cyI, 41, .inl (fun _ => 0))), (u3949 6, .inl (cyI, 41, .inl (fun _ => 0)))] H := hP
  have hD : va_D A [(h0, .inr (6, [.ref q3795, .int 0, .ref q3796, .ref q3835, .ref q3874, .ref q3877, .ref q3880, .int 0, .int 0, .null, .ref q3881, .ref q3898, .ref q3899, .ref q3900, .int 0, .ref q3901, .int 0, .ref q3902, .ref q3913, .int 0])), (q3880, .inl (cyO, 41, .inr (.inr (.inr (.inr (va_up (fun _ => none) 0 (some q3933))))))), (q3933, .inr (5, [.ref (u3949 0), .ref (u3949 1), .ref (u3949 2), .ref (u3949 3), .ref (u3949 4), .ref (u3949 5), .ref (u3949 6), .int 0, .int (-1), .int 0, .int 0, .int 0, .int 0])), (u3949 0, .inl (cyI, 6, .inl (fun _ => 0))), (u3949 1, .inl (cyI, 8, .inl (fun _ => 0))), (u3949 2, .inl (cyI, 8, .inl (fun _ => 0))), (u3949 3, .inl (cyI, 328, .inl (fun _ => 0))), (u3949 4, .inl (cyI, 328, .inl (fun _ => 0))), (u3949 5, .inl (cyI, 41, .inl (fun _ => 0))), (u3949 6, .inl (cyI, 41, .inl (fun _ => 0)))] := hD
  refine lv_aload_n hx hb dX6_stateAt_26 rfl (lv_at hl 0 rfl) ?_
  exact W.aret (v := .ref q3933) hx hb hr (Or.inl ⟨_, rfl⟩) (Or.inr ⟨_, rfl⟩) (fun t ht hW => ⟨⟨(fun k => match k with | 0 => q3933 | 1 => u3949 0 | 2 => u3949 1 | 3 => u3949 2 | 4 => u3949 3 | 5 => u3949 4 | 6 => u3949 5 | _ => u3949 6), q3933, rfl, trivial, rfl, cE.of ht hP hD [0, 1, 2, 3, 4, 5, 6, 7, 8, 9] (by decide) rfl⟩, hS.F ht⟩) hS.2.2 dX6_stateAt_27
def wo_k_X5_startAs_v2 : List Cond := [.fieldLink RX5 37 "ReplicaChain$Plan" "memberCount" "I", .fieldLink RX5 42 "ReplicaChain$State" "size" "I", .fieldLink RX5 15 "ReplicaChain$State" "has" "[I", .fieldLink RX5 18 "ReplicaChain$State" "clean" "[I", .fieldLink RX5 33 "ReplicaChain$State" "copier" "I", .fieldLink RX5 48 "ReplicaChain$State" "copyLeft" "I", .fieldLink RX5 51 "ReplicaChain$State" "tick" "I", .fieldLink RX5 54 "ReplicaChain$Plan" "draw" "I", .fieldLink RX5 57 "ReplicaChain$State" "seed" "I", .fieldLink RX5 60 "ReplicaChain$State" "dropped" "I"]
def wq_k_X5_startAs_v2 : List Cond := .code yX5_startAs cX5_startAs 3 none :: (wo_k_X5_startAs_v2 ++ (wsX10 ++ (wsX50 ++ [])))
theorem gd_k_X5_startAs_v2 : Gd wq_k_X5_startAs_v2 := gd_c (gd_a (gd_o (by decide +kernel)) (gd_a gd_u (gd_a gd_u gd_0)))
abbrev wc_k_X5_startAs_v2 (cyB cyI cyJ cyZ cyO : ClassId) (q3796 : Nat) (u3834 : Nat → Nat) (u3951 : Nat → Nat) : va_W := [(q3796, .inr (1, [.ref (u3834 0), .ref (u3834 1), .ref (u3834 2), .ref (u3834 6), .int 0, .int 0, .int 0, .int 0, .int 2, .int 0, .int 0])), (u3951 0, .inr (5, [.ref (u3951 1), .ref (u3951 2), .ref (u3951 3), .ref (u3951 4), .ref (u3951 5), .ref (u3951 6), .ref (u3951 7), .int 0, .int (-1), .int 0, .int 0, .int 0, .int 0])), (u3951 2, .inl (cyI, 8, .inl (fun _ => 0))), (u3951 3, .inl (cyI, 8, .inl (fun _ => 0)))]
set_option maxHeartbeats 4000000 in
set_option maxRecDepth 100000 in
theorem k_X5_startAs_v2 (l : Launch) (dC : Nat → ClassId) (dI : Nat → Nat → Nat) (cyB cyI cyJ cyZ cyO : ClassId) (q3796 : Nat) (u3834 : Nat → Nat) (u3951 : Nat → Nat) (sz : Nat) : Met l yX5_startAs wq_k_X5_startAs_v2 ({ frames := 0, cells := 0, slots := 0, locals := 0 }) (va_Pc [.ref (u3951 0), .ref q3796] (cB (dC, dI) (kT cyB cyI cyJ cyZ cyO) (wc_k_X5_startAs_v2 cyB cyI cyJ cyZ cyO q3796 u3834 u3951) sz)) (va_Qv (fun _ => True) (fun (u : Unit) t => cE (dC, dI) (va_A (wc_k_X5_startAs_v2 cyB cyI cyJ cyZ cyO q3796 u3834 u3951) sz) ([(q3796, .inr (1, [.ref (u3834 0), .ref (u3834 1), .ref (u3834 2), .ref (u3834 6), .int 0, .int 0, .int 0, .int 0, .int 2, .int 0, .int 0])), (u3951 0, .inr (5, [.ref (u3951 1), .ref (u3951 2), .ref (u3951 3), .ref (u3951 4), .ref (u3951 5), .ref (u3951 6), .ref (u3951 7), .int 0, .int (-1), .int 0, .int 0, .int 0, .int 0])), (u3951 2, .inl (cyI, 8, .inl (fun _ => 0))), (u3951 3, .inl (cyI, 8, .inl (fun _ => 0)))]) t.heap) (va_A (wc_k_X5_startAs_v2 cyB cyI cyJ cyZ cyO q3796 u3834 u3951) sz)) 0 0 (va_A (wc_k_X5_startAs_v2 cyB cyI cyJ cyZ cyO q3796 u3834 u3951) sz) := by
  refine Met.ofW (cc := cX5_startAs) (maxL := 3) (ret := none) (by decide) rfl ?_
  intro p e s m args below meth c s₁ B hml hv
  obtain ⟨rfl, hsz, hP, hKN, hD0⟩ := hv
  have hx := B.exec
  have hb := B.bytes
  have hr := B.returns
  have hts := atoms_spec (ws := wq_k_X5_startAs_v2) B.pre
  have hown : s.vm.findClass RX5 = some m.cls := findClass_of_methodNamed B.named
  have hlocks := B.notSynchronized
  have hK := hKN.1
  have hfix : CallFix p m c cX5_startAs 3 s [.ref (u3951 0), .ref q3796].toArray wq_k_X5_startAs_v2 RX5 := ⟨hx, hb, hml, hown, hts⟩
  have hi1 : ∀ w ∈ wsX10, w ∈ wq_k_X5_startAs_v2 := (sb_c sb_l)
  have hi5 : ∀ w ∈ wsX50, w ∈ wq_k_X5_startAs_v2 := (sb_c (sb_r sb_l))
  subst hsz
  have hD := hD0.self (sz := s.heap.size)
  generalize hAe : va_A (wc_k_X5_startAs_v2 cyB cyI cyJ cyZ cyO q3796 u3834 u3951) s.heap.size = A at hD ⊢
  have hA : ∀ q : Nat, s.heap.size ≤ q → A q := fun q h => by rw [← hAe]; exact Or.inr h
  have hS : va_S A s.heap s.heap [] := va_S.rf
  have hl := lv_entry ([.ref (u3951 0), .ref q3796]) (n := 3) (Nat.le_of_ble_eq_true rfl)
  rw [lg_entry_eq]
  generalize (lg_sl ([.ref (u3951 0), .ref q3796]) ++ List.replicate (3 - (lg_sl ([.ref (u3951 0), .ref q3796])).length) Slot.unset).toArray = ls at hl ⊢
  have hl : lv_has ls 3 [(0, .ref (u3951 0)), (1, .ref q3796)] := hl
  refine lv_aload_n hx hb dX5_startAs_0 rfl (lv_at hl 0 rfl) ?_
  refine lv_aload_n hx hb dX5_startAs_1 rfl (lv_at hl 1 rfl) ?_
  refine va_get (D := (dC, dI)) (ci := 1) (v := .int 0) (C := RX1) (T := TX1) (N := 11) hx hb hts hi1 hown hK hP 0 rfl rfl 4 (by decide) (hts _ (ow_m (k := 0) rfl)) (fun _ h9 => h9) rfl dX5_startAs_2 ?_
  refine va_put (D := (dC, dI)) (ci := 5) (v := .int 0) (ty := .int) (C := RX5) (T := TX5) (N := 13) hx hb hts hi5 tyX5 tyX5_ok nmX5 hown hK hP hD hS 1 rfl rfl 7 (by decide) (hts _ (ow_m (k := 1) rfl)) (fun _ h9 => h9) rfl (by decide +kernel) rfl rfl (Nat.le_of_ble_eq_true rfl) dX5_startAs_5 (fun H locs hP hD hS => ?_)
  have hP : va_P (dC, dI) vwCl [(q3796, .inr (1, [.ref (u3834 0), .ref (u3834 1), .ref (u3834 2), .ref (u3834 6), .int 0, .int 0, .int 0, .int 0, .int 2, .int 0, .int 0])), (u3951 0, .inr (5, [.ref (u3951 1), .ref (u3951 2), .ref (u3951 3), .ref (u3951 4), .ref (u3951 5), .ref (u3951 6), .ref (u3951 7), .int 0, .int (-1), .int 0, .int 0, .int 0, .int 0])), (u3951 2, .inl (cyI, 8, .inl (fun _ => 0))), (u3951 3, .inl (cyI, 8, .inl (fun _ => 0)))] H := hP
  have hD : va_D A [(q3796, .inr (1, [.ref (u3834 0), .ref (u3834 1), .ref (u3834 2), .ref (u3834 6), .int 0, .int 0, .int 0, .int 0, .int 2, .int 0, .int 0])), (u3951 0, .inr (5, [.ref (u3951 1), .ref (u3951 2), .ref (u3951 3), .ref (u3951 4), .ref (u3951 5), .ref (u3951 6), .ref (u3951 7), .int 0, .int (-1), .int 0, .int 0, .int 0, .int 0])), (u3951 2, .inl (cyI, 8, .inl (fun _ => 0))), (u3951 3, .inl (cyI, 8, .inl (fun _ => 0)))] := hD
  refine lv_iconst (v := 0) hx hb dX5_startAs_8 (by decide) ?_
  refine lv_istore_n (lv' := [(2, .int 0), (0, .ref (u3951 0)), (1, .ref q3796)]) hx hb dX5_startAs_9 rfl hl (by decide) rfl (fun ls hl => ?_)
  refine lv_iload_n hx hb dX5_startAs_10 rfl (lv_at hl 0 rfl) ?_
  refine lv_aload_n hx hb dX5_startAs_11 rfl (lv_at hl 1 rfl) ?_
  refine va_get (D := (dC, dI)) (ci := 5) (v := .int 0) (C := RX5) (T := TX5) (N := 13) hx hb hts hi5 hown hK hP 1 rfl rfl 7 (by decide) (hts _ (ow_m (k := 1) rfl)) (fun _ h9 => h9) rfl dX5_startAs_12 ?_
  refine lv_icmp_ge (tgt := 36) hx hb dX5_startAs_15 (by decide) (fun _ => ?_) (fun c3962 => absurd (by decide) c3962)
  refine lv_iconst (v := 0) hx hb dX5_startAs_36 (by decide) ?_
  refine lv_istore_n (lv' := [(2, .int 0), (0, .ref (u3951 0)), (1, .ref q3796)]) hx hb dX5_startAs_37 rfl hl (by decide) rfl (fun ls hl => ?_)
  refine lv_iload_n hx hb dX5_startAs_38 rfl (lv_at hl 0 rfl) ?_
  refine lv_bipush (v := 8) hx hb dX5_startAs_39 (by decide) ?_
  refine lv_icmp_ge (tgt := 64) hx hb dX5_startAs_41 (by decide) (fun c3963 => absurd c3963 (by decide)) (fun _ => ?_)
  refine lv_aload_n hx hb dX5_startAs_44 rfl (lv_at hl 1 rfl) ?_
  refine va_get (D := (dC, dI)) (ci := 5) (v := .ref (u3951 2)) (C := RX5) (T := TX5) (N := 13) hx hb hts hi5 hown hK hP 1 rfl rfl 1 (by decide) (hts _ (ow_m (k := 2) rfl)) (fun _ h9 => h9) rfl dX5_startAs_45 ?_
  refine lv_iload_n hx hb dX5_startAs_48 rfl (lv_at hl 0 rfl) ?_
  refine lv_iconst (v := 0) hx hb dX5_startAs_49 (by decide) ?_
  refine va_iast hx hb hK hP hD hS 2 1 rfl rfl (vp_i (a := 0) (by decide) (by decide) (by decide)) dX5_startAs_50 (fun H locs hP hD hS => ?_)
  have hP : va_P (dC, dI) vwCl [(q3796, .inr (1, [.ref (u3834 0), .ref (u3834 1), .ref (u3834 2), .ref (u3834 6), .int 0, .int 0, .int 0, .int 0, .int 2, .int 0, .int 0])), (u3951 0, .inr (5, [.ref (u3951 1), .ref (u3951 2), .ref (u3951 3), .ref (u3951 4), .ref (u3951 5), .ref (u3951 6), .ref (u3951 7), .int 0, .int (-1), .int 0, .int 0, .int 0, .int 0])), (u3951 2, .inl (cyI, 8, .inl (upd (fun _ => 0) 0 0))), (u3951 3, .inl (cyI, 8, .inl (fun _ => 0)))] H := hP
  have hD : va_D A [(q3796, .inr (1, [.ref (u3834 0), .ref (u3834 1), .ref (u3834 2), .ref (u3834 6), .int 0, .int 0, .int 0, .int 0, .int 2, .int 0, .int 0])), (u3951 0, .inr (5, [.ref (u3951 1), .ref (u3951 2), .ref (u3951 3), .ref (u3951 4), .ref (u3951 5), .ref (u3951 6), .ref (u3951 7), .int 0, .int (-1), .int 0, .int 0, .int 0, .int 0])), (u3951 2, .inl (cyI, 8, .inl (upd (fun _ => 0) 0 0))), (u3951 3, .inl (cyI, 8, .inl (fun _ => 0)))] := hD
  rw [upd_z] at hP hD
  refine lv_aload_n hx hb dX5_startAs_51 rfl (lv_at hl 1 rfl) ?_
  refine va_get (D := (dC, dI)) (ci := 5) (v := .ref (u3951 3)) (C := RX5) (T := TX5) (N := 13) hx hb hts hi5 hown hK hP 1 rfl rfl 2 (by decide) (hts _ (ow_m (k := 3) rfl)) (fun _ h9 => h9) rfl dX5_startAs_52 ?_
  refine lv_iload_n hx hb dX5_startAs_55 rfl (lv_at hl 0 rfl) ?_
  refine lv_iconst (v := 0) hx hb dX5_startAs_56 (by decide) ?_
  refine va_iast hx hb hK hP hD hS 3 1 rfl rfl (vp_i (a := 0) (by decide) (by decide) (by decide)) dX5_startAs_57 (fun H locs hP hD hS => ?_)
  have hP : va_P (dC, dI) vwCl [(q3796, .inr (1, [.ref (u3834 0), .ref (u3834 1), .ref (u3834 2), .ref (u3834 6), .int 0, .int 0, .int 0, .int 0, .int 2, .int 0, .int 0])), (u3951 0, .inr (5, [.ref (u3951 1), .ref (u3951 2), .ref (u3951 3), .ref (u3951 4), .ref (u3951 5), .ref (u3951 6), .ref (u3951 7), .int 0, .int (-1), .int 0, .int 0, .int 0, .int 0])), (u3951 2, .inl (cyI, 8, .inl (fun _ => 0))), (u3951 3, .inl (cyI, 8, .inl (upd (fun _ => 0) 0 0)))] H := hP
  have hD : va_D A [(q3796, .inr (1, [.ref (u3834 0), .ref (u3834 1), .ref (u3834 2), .ref (u3834 6), .int 0, .int 0, .int 0, .int 0, .int 2, .int 0, .int 0])), (u3951 0, .inr (5, [.ref (u3951 1), .ref (u3951 2), .ref (u3951 3), .ref (u3951 4), .ref (u3951 5), .ref (u3951 6), .ref (u3951 7), .int 0, .int (-1), .int 0, .int 0, .int 0, .int 0])), (u3951 2, .inl (cyI, 8, .inl (fun _ => 0))), (u3951 3, .inl (cyI, 8, .inl (upd (fun _ => 0) 0 0)))] := hD
  rw [upd_z] at hP hD
  refine lv_iinc (v := 1) (lv' := [(2, .int 1), (0, .ref (u3951 0)), (1, .ref q3796)]) hx hb dX5_startAs_58 hl (k := 0) rfl (by decide) (by decide) rfl (fun ls hl => ?_)
  refine lv_goto (tgt := 38) hx hb dX5_startAs_61 (by decide) ?_
  refine lv_iload_n hx hb dX5_startAs_38 rfl (lv_at hl 0 rfl) ?_
  refine lv_bipush (v := 8) hx hb dX5_startAs_39 (by decide) ?_
  refine lv_icmp_ge (tgt := 64) hx hb dX5_startAs_41 (by decide) (fun c3964 => absurd c3964 (by decide)) (fun _ => ?_)
  refine lv_aload_n hx hb dX5_startAs_44 rfl (lv_at hl 1 rfl) ?_
  refine va_get (D := (dC, dI)) (ci := 5) (v := .ref (u3951 2)) (C := RX5) (T := TX5) (N := 13) hx hb hts hi5 hown hK hP 1 rfl rfl 1 (by decide) (hts _ (ow_m (k := 2) rfl)) (fun _ h9 => h9) rfl dX5_startAs_45 ?_
  refine lv_iload_n hx hb dX5_startAs_48 rfl (lv_at hl 0 rfl) ?_
  refine lv_iconst (v := 0) hx hb dX5_startAs_49 (by decide) ?_
  refine va_iast hx hb hK hP hD hS 2 1 rfl rfl (vp_i (a := 1) (by decide) (by decide) (by decide)) dX5_startAs_50 (fun H locs hP hD hS => ?_)
  have hP : va_P (dC, dI) vwCl [(q3796, .inr (1, [.ref (u3834 0), .ref (u3834 1), .ref (u3834 2), .ref (u3834 6), .int 0, .int 0, .int 0, .int 0, .int 2, .int 0, .int 0])), (u3951 0, .inr (5, [.ref (u3951 1), .ref (u3951 2), .ref (u3951 3), .ref (u3951 4), .ref (u3951 5), .ref (u3951 6), .ref (u3951 7), .int 0, .int (-1), .int 0, .int 0, .int 0, .int 0])), (u3951 2, .inl (cyI, 8, .inl (upd (fun _ => 0) 1 0))), (u3951 3, .inl (cyI, 8, .inl (fun _ => 0)))] H := hP
  have hD : va_D A [(q3796, .inr (1, [.ref (u3834 0), .ref (u3834 1), .ref (u3834 2), .ref (u3834 6), .int 0, .int 0, .int 0, .int 0, .int 2, .int 0, .int 0])), (u3951 0, .inr (5, [.ref (u3951 1), .ref (u3951 2), .ref (u3951 3), .ref (u3951 4), .ref (u3951 5), .ref (u3951 6), .ref (u3951 7), .int 0, .int (-1), .int 0, .int 0, .int 0, .int 0])), (u3951 2, .inl (cyI, 8, .inl (upd (fun _ => 0) 1 0))), (u3951 3, .inl (cyI, 8, .inl (fun _ => 0)))] := hD
  rw [upd_z] at hP hD
  refine lv_aload_n hx hb dX5_startAs_51 rfl (lv_at hl 1 rfl) ?_
  refine va_get (D := (dC, dI)) (ci := 5) (v := .ref (u3951 3)) (C := RX5) (T := TX5) (N := 13) hx hb hts hi5 hown hK hP 1 rfl rfl 2 (by decide) (hts _ (ow_m (k := 3) rfl)) (fun _ h9 => h9) rfl dX5_startAs_52 ?_
  refine lv_iload_n hx hb dX5_startAs_55 rfl (lv_at hl 0 rfl) ?_
  refine lv_iconst (v := 0) hx hb dX5_startAs_56 (by decide) ?_
  refine va_iast hx hb hK hP hD hS 3 1 rfl rfl (vp_i (a := 1) (by decide) (by decide) (by decide)) dX5_startAs_57 (fun H locs hP hD hS => ?_)
  have hP : va_P (dC, dI) vwCl [(q3796, .inr (1, [.ref (u3834 0), .ref (u3834 1), .ref (u3834 2), .ref (u3834 6), .int 0, .int 0, .int 0, .int 0, .int 2, .int 0, .int 0])), (u3951 0, .inr (5, [.ref (u3951 1), .ref (u3951 2), .ref (u3951 3), .ref (u3951 4), .ref (u3951 5), .ref (u3951 6), .ref (u3951 7), .int 0, .int (-1), .int 0, .int 0, .int 0, .int 0])), (u3951 2, .inl (cyI, 8, .inl (fun _ => 0))), (u3951 3, .inl (cyI, 8, .inl (upd (fun _ => 0) 1 0)))] H := hP
  have hD : va_D A [(q3796, .inr (1, [.ref (u3834 0), .ref (u3834 1), .ref (u3834 2), .ref (u3834 6), .int 0, .int 0, .int 0, .int 0, .int 2, .int 0, .int 0])), (u3951 0, .inr (5, [.ref (u3951 1), .ref (u3951 2), .ref (u3951 3), .ref (u3951 4), .ref (u3951 5), .ref (u3951 6), .ref (u3951 7), .int 0, .int (-1), .int 0, .int 0, .int 0, .int 0])), (u3951 2, .inl (cyI, 8, .inl (fun _ => 0))), (u3951 3, .inl (cyI, 8, .inl (upd (fun _ => 0) 1 0)))] := hD
  rw [upd_z] at hP hD
  refine lv_iinc (v := 2) (lv' := [(2, .int 2), (0, .ref (u3951 0)), (1, .ref q3796)]) hx hb dX5_startAs_58 hl (k := 0) rfl (by decide) (by decide) rfl (fun ls hl => ?_)
  refine lv_goto (tgt := 38) hx hb dX5_startAs_61 (by decide) ?_
  refine lv_iload_n hx hb dX5_startAs_38 rfl (lv_at hl 0 rfl) ?_
  refine lv_bipush (v := 8) hx hb dX5_startAs_39 (by decide) ?_
  refine lv_icmp_ge (tgt := 64) hx hb dX5_startAs_41 (by decide) (fun c3965 => absurd c3965 (by decide)) (fun _ => ?_)
  refine lv_aload_n hx hb dX5_startAs_44 rfl (lv_at hl 1 rfl) ?_
  refine va_get (D := (dC, dI)) (ci := 5) (v := .ref (u3951 2)) (C := RX5) (T := TX5) (N := 13) hx hb hts hi5 hown hK hP 1 rfl rfl 1 (by decide) (hts _ (ow_m (k := 2) rfl)) (fun _ h9 => h9) rfl dX5_startAs_45 ?_
  refine lv_iload_n hx hb dX5_startAs_48 rfl (lv_at hl 0 rfl) ?_
  refine lv_iconst (v := 0) hx hb dX5_startAs_49 (by decide) ?_
  refine va_iast hx hb hK hP hD hS 2 1 rfl rfl (vp_i (a := 2) (by decide) (by decide) (by decide)) dX5_startAs_50 (fun H locs hP hD hS => ?_)
  have hP : va_P (dC, dI) vwCl [(q3796, .inr (1, [.ref (u3834 0), .ref (u3834 1), .ref (u3834 2), .ref (u3834 6), .int 0, .int 0, .int 0, .int 0, .int 2, .int 0, .int 0])), (u3951 0, .inr (5, [.ref (u3951 1), .ref (u3951 2), .ref (u3951 3), .ref (u3951 4), .ref (u3951 5), .ref (u3951 6), .ref (u3951 7), .int 0, .int (-1), .int 0, .int 0, .int 0, .int 0])), (u3951 2, .inl (cyI, 8, .inl (upd (fun _ => 0) 2 0))), (u3951 3, .inl (cyI, 8, .inl (fun _ => 0)))] H := hP
  have hD : va_D A [(q3796, .inr (1, [.ref (u3834 0), .ref (u3834 1), .ref (u3834 2), .ref (u3834 6), .int 0, .int 0, .int 0, .int 0, .int 2, .int 0, .int 0])), (u3951 0, .inr (5, [.ref (u3951 1), .ref (u3951 2), .ref (u3951 3), .ref (u3951 4), .ref (u3951 5), .ref (u3951 6), .ref (u3951 7), .int 0, .int (-1), .int 0, .int 0, .int 0, .int 0])), (u3951 2, .inl (cyI, 8, .inl (upd (fun _ => 0) 2 0))), (u3951 3, .inl (cyI, 8, .inl (fun _ => 0)))] := hD
  rw [upd_z] at hP hD
  refine lv_aload_n hx hb dX5_startAs_51 rfl (lv_at hl 1 rfl) ?_
  refine va_get (D := (dC, dI)) (ci := 5) (v := .ref (u3951 3)) (C := RX5) (T := TX5) (N := 13) hx hb hts hi5 hown hK hP 1 rfl rfl 2 (by decide) (hts _ (ow_m (k := 3) rfl)) (fun _ h9 => h9) rfl dX5_startAs_52 ?_
  refine lv_iload_n hx hb dX5_startAs_55 rfl (lv_at hl 0 rfl) ?_
  refine lv_iconst (v := 0) hx hb dX5_startAs_56 (by decide) ?_
  refine va_iast hx hb hK hP hD hS 3 1 rfl rfl (vp_i (a := 2) (by decide) (by decide) (by decide)) dX5_startAs_57 (fun H locs hP hD hS => ?_)
  have hP : va_P (dC, dI) vwCl [(q3796, .inr (1, [.ref (u3834 0), .ref (u3834 1), .ref (u3834 2), .ref (u3834 6), .int 0, .int 0, .int 0, .int 0, .int 2, .int 0, .int 0])), (u3951 0, .inr (5, [.ref (u3951 1), .ref (u3951 2), .ref (u3951 3), .ref (u3951 4), .ref (u3951 5), .ref (u3951 6), .ref (u3951 7), .int 0, .int (-1), .int 0, .int 0, .int 0, .int 0])), (u3951 2, .inl (cyI, 8, .inl (fun _ => 0))), (u3951 3, .inl (cyI, 8, .inl (upd (fun _ => 0) 2 0)))] H := hP
  have hD : va_D A [(q3796, .inr (1, [.ref (u3834 0), .ref (u3834 1), .ref (u3834 2), .ref (u3834 6), .int 0, .int 0, .int 0, .int 0, .int 2, .int 0, .int 0])), (u3951 0, .inr (5, [.ref (u3951 1), .ref (u3951 2), .ref (u3951 3), .ref (u3951 4), .ref (u3951 5), .ref (u3951 6), .ref (u3951 7), .int 0, .int (-1), .int 0, .int 0, .int 0, .int 0])), (u3951 2, .inl (cyI, 8, .inl (fun _ => 0))), (u3951 3, .inl (cyI, 8, .inl (upd (fun _ => 0) 2 0)))] := hD
  rw [upd_z] at hP hD
  refine lv_iinc (v := 3) (lv' := [(2, .int 3), (0, .ref (u3951 0)), (1, .ref q3796)]) hx hb dX5_startAs_58 hl (k := 0) rfl (by decide) (by decide) rfl (fun ls hl => ?_)
  refine lv_goto (tgt := 38) hx hb dX5_startAs_61 (by decide) ?_
  refine lv_iload_n hx hb dX5_startAs_38 rfl (lv_at hl 0 rfl) ?_
  refine lv_bipush (v := 8) hx hb dX5_startAs_39 (by decide) ?_
  refine lv_icmp_ge (tgt := 64) hx hb dX5_startAs_41 (by decide) (fun c3966 => absurd c3966 (by decide)) (fun _ => ?_)
  refine lv_aload_n hx hb dX5_startAs_44 rfl (lv_at hl 1 rfl) ?_
  refine va_get (D := (dC, dI)) (ci := 5) (v := .ref (u3951 2)) (C := RX5) (T := TX5) (N := 13) hx hb hts hi5 hown hK hP 1 rfl rfl 1 (by decide) (hts _ (ow_m (k := 2) rfl)) (fun _ h9 => h9) rfl dX5_startAs_45 ?_
  refine lv_iload_n hx hb dX5_startAs_48 rfl (lv_at hl 0 rfl) ?_
  refine lv_iconst (v := 0) hx hb dX5_startAs_49 (by decide) ?_
  refine va_iast hx hb hK hP hD hS 2 1 rfl rfl (vp_i (a := 3) (by decide) (by decide) (by decide)) dX5_startAs_50 (fun H locs hP hD hS => ?_)
  have hP : va_P (dC, dI) vwCl [(q3796, .inr (1, [.ref (u3834 0), .ref (u3834 1), .ref (u3834 2), .ref (u3834 6), .int 0, .int 0, .int 0, .int 0, .int 2, .int 0, .int 0])), (u3951 0, .inr (5, [.ref (u3951 1), .ref (u3951 2), .ref (u3951 3), .ref (u3951 4), .ref (u3951 5), .ref (u3951 6), .ref (u3951 7), .int 0, .int (-1), .int 0, .int 0, .int 0, .int 0])), (u3951 2, .inl (cyI, 8, .inl (upd (fun _ => 0) 3 0))), (u3951 3, .inl (cyI, 8, .inl (fun _ => 0)))] H := hP
  have hD : va_D A [(q3796, .inr (1, [.ref (u3834 0), .ref (u3834 1), .ref (u3834 2), .ref (u3834 6), .int 0, .int 0, .int 0, .int 0, .int 2, .int 0, .int 0])), (u3951 0, .inr (5, [.ref (u3951 1), .ref (u3951 2), .ref (u3951 3), .ref (u3951 4), .ref (u3951 5), .ref (u3951 6), .ref (u3951 7), .int 0, .int (-1), .int 0, .int 0, .int 0, .int 0])), (u3951 2, .inl (cyI, 8, .inl (upd (fun _ => 0) 3 0))), (u3951 3, .inl (cyI, 8, .inl (fun _ => 0)))] := hD
  rw [upd_z] at hP hD
  refine lv_aload_n hx hb dX5_startAs_51 rfl (lv_at hl 1 rfl) ?_
  refine va_get (D := (dC, dI)) (ci := 5) (v := .ref (u3951 3)) (C := RX5) (T := TX5) (N := 13) hx hb hts hi5 hown hK hP 1 rfl rfl 2 (by decide) (hts _ (ow_m (k := 3) rfl)) (fun _ h9 => h9) rfl dX5_startAs_52 ?_
  refine lv_iload_n hx hb dX5_startAs_55 rfl (lv_at hl 0 rfl) ?_
  refine lv_iconst (v := 0) hx hb dX5_startAs_56 (by decide) ?_
  refine va_iast hx hb hK hP hD hS 3 1 rfl rfl (vp_i (a := 3) (by decide) (by decide) (by decide)) dX5_startAs_57 (fun H locs hP hD hS => ?_)
  have hP : va_P (dC, dI) vwCl [(q3796, .inr (1, [.ref (u3834 0), .ref (u3834 1), .ref (u3834 2), .ref (u3834 6), .int 0, .int 0, .int 0, .int 0, .int 2, .int 0, .int 0])), (u3951 0, .inr (5, [.ref (u3951 1), .ref (u3951 2), .ref (u3951 3), .ref (u3951 4), .ref (u3951 5), .ref (u3951 6), .ref (u3951 7), .int 0, .int (-1), .int 0, .int 0, .int 0, .int 0])), (u3951 2, .inl (cyI, 8, .inl (fun _ => 0))), (u3951 3, .inl (cyI, 8, .inl (upd (fun _ => 0) 3 0)))] H := hP
  have hD : va_D A [(q3796, .inr (1, [.ref (u3834 0), .ref (u3834 1), .ref (u3834 2), .ref (u3834 6), .int 0, .int 0, .int 0, .int 0, .int 2, .int 0, .int 0])), (u3951 0, .inr (5, [.ref (u3951 1), .ref (u3951 2), .ref (u3951 3), .ref (u3951 4), .ref (u3951 5), .ref (u3951 6), .ref (u3951 7), .int 0, .int (-1), .int 0, .int 0, .int 0, .int 0])), (u3951 2, .inl (cyI, 8, .inl (fun _ => 0))), (u3951 3, .inl (cyI, 8, .inl (upd (fun _ => 0) 3 0)))] := hD
  rw [upd_z] at hP hD
  refine lv_iinc (v := 4) (lv' := [(2, .int 4), (0, .ref (u3951 0)), (1, .ref q3796)]) hx hb dX5_startAs_58 hl (k := 0) rfl (by decide) (by decide) rfl (fun ls hl => ?_)
  refine lv_goto (tgt := 38) hx hb dX5_startAs_61 (by decide) ?_
  refine lv_iload_n hx hb dX5_startAs_38 rfl (lv_at hl 0 rfl) ?_
  refine lv_bipush (v := 8) hx hb dX5_startAs_39 (by decide) ?_
  refine lv_icmp_ge (tgt := 64) hx hb dX5_startAs_41 (by decide) (fun c3967 => absurd c3967 (by decide)) (fun _ => ?_)
  refine lv_aload_n hx hb dX5_startAs_44 rfl (lv_at hl 1 rfl) ?_
  refine va_get (D := (dC, dI)) (ci := 5) (v := .ref (u3951 2)) (C := RX5) (T := TX5) (N := 13) hx hb hts hi5 hown hK hP 1 rfl rfl 1 (by decide) (hts _ (ow_m (k := 2) rfl)) (fun _ h9 => h9) rfl dX5_startAs_45 ?_
  refine lv_iload_n hx hb dX5_startAs_48 rfl (lv_at hl 0 rfl) ?_
  refine lv_iconst (v := 0) hx hb dX5_startAs_49 (by decide) ?_
  refine va_iast hx hb hK hP hD hS 2 1 rfl rfl (vp_i (a := 4) (by decide) (by decide) (by decide)) dX5_startAs_50 (fun H locs hP hD hS => ?_)
  have hP : va_P (dC, dI) vwCl [(q3796, .inr (1, [.ref (u3834 0), .ref (u3834 1), .ref (u3834 2), .ref (u3834 6), .int 0, .int 0, .int 0, .int 0, .int 2, .int 0, .int 0])), (u3951 0, .inr (5, [.ref (u3951 1), .ref (u3951 2), .ref (u3951 3), .ref (u3951 4), .ref (u3951 5), .ref (u3951 6), .ref (u3951 7), .int 0, .int (-1), .int 0, .int 0, .int 0, .int 0])), (u3951 2, .inl (cyI, 8, .inl (upd (fun _ => 0) 4 0))), (u3951 3, .inl (cyI, 8, .inl (fun _ => 0)))] H := hP
  have hD : va_D A [(q3796, .inr (1, [.ref (u3834 0), .ref (u3834 1), .ref (u3834 2), .ref (u3834 6), .int 0, .int 0, .int 0, .int 0, .int 2, .int 0, .int 0])), (u3951 0, .inr (5, [.ref (u3951 1), .ref (u3951 2), .ref (u3951 3), .ref (u3951 4), .ref (u3951 5), .ref (u3951 6), .ref (u3951 7), .int 0, .int (-1), .int 0, .int 0, .int 0, .int 0])), (u3951 2, .inl (cyI, 8, .inl (upd (fun _ => 0) 4 0))), (u3951 3, .inl (cyI, 8, .inl (fun _ => 0)))] := hD
  rw [upd_z] at hP hD
  refine lv_aload_n hx hb dX5_startAs_51 rfl (lv_at hl 1 rfl) ?_
  refine va_get (D := (dC, dI)) (ci := 5) (v := .ref (u3951 3)) (C := RX5) (T := TX5) (N := 13) hx hb hts hi5 hown hK hP 1 rfl rfl 2 (by decide) (hts _ (ow_m (k := 3) rfl)) (fun _ h9 => h9) rfl dX5_startAs_52 ?_
  refine lv_iload_n hx hb dX5_startAs_55 rfl (lv_at hl 0 rfl) ?_
  refine lv_iconst (v := 0) hx hb dX5_startAs_56 (by decide) ?_
  refine va_iast hx hb hK hP hD hS 3 1 rfl rfl (vp_i (a := 4) (by decide) (by decide) (by decide)) dX5_startAs_57 (fun H locs hP hD hS => ?_)
  have hP : va_P (dC, dI) vwCl [(q3796, .inr (1, [.ref (u3834 0), .ref (u3834 1), .ref (u3834 2), .ref (u3834 6), .int 0, .int 0, .int 0, .int 0, .int 2, .int 0, .int 0])), (u3951 0, .inr (5, [.ref (u3951 1), .ref (u3951 2), .ref (u3951 3), .ref (u3951 4), .ref (u3951 5), .ref (u3951 6), .ref (u3951 7), .int 0, .int (-1), .int 0, .int 0, .int 0, .int 0])), (u3951 2, .inl (cyI, 8, .inl (fun _ => 0))), (u3951 3, .inl (cyI, 8, .inl (upd (fun _ => 0) 4 0)))] H := hP
  have hD : va_D A [(q3796, .inr (1, [.ref (u3834 0), .ref (u3834 1), .ref (u3834 2), .ref (u3834 6), .int 0, .int 0, .int 0, .int 0, .int 2, .int 0, .int 0])), (u3951 0, .inr (5, [.ref (u3951 1), .ref (u3951 2), .ref (u3951 3), .ref (u3951 4), .ref (u3951 5), .ref (u3951 6), .ref (u3951 7), .int 0, .int (-1), .int 0, .int 0, .int 0, .int 0])), (u3951 2, .inl (cyI, 8, .inl (fun _ => 0))), (u3951 3, .inl (cyI, 8, .inl (upd (fun _ => 0) 4 0)))] := hD
  rw [upd_z] at hP hD
  refine lv_iinc (v := 5) (lv' := [(2, .int 5), (0, .ref (u3951 0)), (1, .ref q3796)]) hx hb dX5_startAs_58 hl (k := 0) rfl (by decide) (by decide) rfl (fun ls hl => ?_)
  refine lv_goto (tgt := 38) hx hb dX5_startAs_61 (by decide) ?_
  refine lv_iload_n hx hb dX5_startAs_38 rfl (lv_at hl 0 rfl) ?_
  refine lv_bipush (v := 8) hx hb dX5_startAs_39 (by decide) ?_
  refine lv_icmp_ge (tgt := 64) hx hb dX5_startAs_41 (by decide) (fun c3968 => absurd c3968 (by decide)) (fun _ => ?_)
  refine lv_aload_n hx hb dX5_startAs_44 rfl (lv_at hl 1 rfl) ?_
  refine va_get (D := (dC, dI)) (ci := 5) (v := .ref (u3951 2)) (C := RX5) (T := TX5) (N := 13) hx hb hts hi5 hown hK hP 1 rfl rfl 1 (by decide) (hts _ (ow_m (k := 2) rfl)) (fun _ h9 => h9) rfl dX5_startAs_45 ?_
  refine lv_iload_n hx hb dX5_startAs_48 rfl (lv_at hl 0 rfl) ?_
  refine lv_iconst (v := 0) hx hb dX5_startAs_49 (by decide) ?_
  refine va_iast hx hb hK hP hD hS 2 1 rfl rfl (vp_i (a := 5) (by decide) (by decide) (by decide)) dX5_startAs_50 (fun H locs hP hD hS => ?_)
  have hP : va_P (dC, dI) vwCl [(q3796, .inr (1, [.ref (u3834 0), .ref (u3834 1), .ref (u3834 2), .ref (u3834 6), .int 0, .int 0, .int 0, .int 0, .int 2, .int 0, .int 0])), (u3951 0, .inr (5, [.ref (u3951 1), .ref (u3951 2), .ref (u3951 3), .ref (u3951 4), .ref (u3951 5), .ref (u3951 6), .ref (u3951 7), .int 0, .int (-1), .int 0, .int 0, .int 0, .int 0])), (u3951 2, .inl (cyI, 8, .inl (upd (fun _ => 0) 5 0))), (u3951 3, .inl (cyI, 8, .inl (fun _ => 0)))] H := hP
  have hD : va_D A [(q3796, .inr (1, [.ref (u3834 0), .ref (u3834 1), .ref (u3834 2), .ref (u3834 6), .int 0, .int 0, .int 0, .int 0, .int 2, .int 0, .int 0])), (u3951 0, .inr (5, [.ref (u3951 1), .ref (u3951 2), .ref (u3951 3), .ref (u3951 4), .ref (u3951 5), .ref (u3951 6), .ref (u3951 7), .int 0, .int (-1), .int 0, .int 0, .int 0, .int 0])), (u3951 2, .inl (cyI, 8, .inl (upd (fun _ => 0) 5 0))), (u3951 3, .inl (cyI, 8, .inl (fun _ => 0)))] := hD
  rw [upd_z] at hP hD
  refine lv_aload_n hx hb dX5_startAs_51 rfl (lv_at hl 1 rfl) ?_
  refine va_get (D := (dC, dI)) (ci := 5) (v := .ref (u3951 3)) (C := RX5) (T := TX5) (N := 13) hx hb hts hi5 hown hK hP 1 rfl rfl 2 (by decide) (hts _ (ow_m (k := 3) rfl)) (fun _ h9 => h9) rfl dX5_startAs_52 ?_
  refine lv_iload_n hx hb dX5_startAs_55 rfl (lv_at hl 0 rfl) ?_
  refine lv_iconst (v := 0) hx hb dX5_startAs_56 (by decide) ?_
  refine va_iast hx hb hK hP hD hS 3 1 rfl rfl (vp_i (a := 5) (by decide) (by decide) (by decide)) dX5_startAs_57 (fun H locs hP hD hS => ?_)
  have hP : va_P (dC, dI) vwCl [(q3796, .inr (1, [.ref (u3834 0), .ref (u3834 1), .ref (u3834 2), .ref (u3834 6), .int 0, .int 0, .int 0, .int 0, .int 2, .int 0, .int 0])), (u3951 0, .inr (5, [.ref (u3951 1), .ref (u3951 2), .ref (u3951 3), .ref (u3951 4), .ref (u3951 5), .ref (u3951 6), .ref (u3951 7), .int 0, .int (-1), .int 0, .int 0, .int 0, .int 0])), (u3951 2, .inl (cyI, 8, .inl (fun _ => 0))), (u3951 3, .inl (cyI, 8, .inl (upd (fun _ => 0) 5 0)))] H := hP
  have hD : va_D A [(q3796, .inr (1, [.ref (u3834 0), .ref (u3834 1), .ref (u3834 2), .ref (u3834 6), .int 0, .int 0, .int 0, .int 0, .int 2, .int 0, .int 0])), (u3951 0, .inr (5, [.ref (u3951 1), .ref (u3951 2), .ref (u3951 3), .ref (u3951 4), .ref (u3951 5), .ref (u3951 6), .ref (u3951 7), .int 0, .int (-1), .int 0, .int 0, .int 0, .int 0])), (u3951 2, .inl (cyI, 8, .inl (fun _ => 0))), (u3951 3, .inl (cyI, 8, .inl (upd (fun _ => 0) 5 0)))] := hD
  rw [upd_z] at hP hD
  refine lv_iinc (v := 6) (lv' := [(2, .int 6), (0, .ref (u3951 0)), (1, .ref q3796)]) hx hb dX5_startAs_58 hl (k := 0) rfl (by decide) (by decide) rfl (fun ls hl => ?_)
  refine lv_goto (tgt := 38) hx hb dX5_startAs_61 (by decide) ?_
  refine lv_iload_n hx hb dX5_startAs_38 rfl (lv_at hl 0 rfl) ?_
  refine lv_bipush (v := 8) hx hb dX5_startAs_39 (by decide) ?_
  refine lv_icmp_ge (tgt := 64) hx hb dX5_startAs_41 (by decide) (fun c3969 => absurd c3969 (by decide)) (fun _ => ?_)
  refine lv_aload_n hx hb dX5_startAs_44 rfl (lv_at hl 1 rfl) ?_
  refine va_get (D := (dC, dI)) (ci := 5) (v := .ref (u3951 2)) (C := RX5) (T := TX5) (N := 13) hx hb hts hi5 hown hK hP 1 rfl rfl 1 (by decide) (hts _ (ow_m (k := 2) rfl)) (fun _ h9 => h9) rfl dX5_startAs_45 ?_
  refine lv_iload_n hx hb dX5_startAs_48 rfl (lv_at hl 0 rfl) ?_
  refine lv_iconst (v := 0) hx hb dX5_startAs_49 (by decide) ?_
  refine va_iast hx hb hK hP hD hS 2 1 rfl rfl (vp_i (a := 6) (by decide) (by decide) (by decide)) dX5_startAs_50 (fun H locs hP hD hS => ?_)
  have hP : va_P (dC, dI) vwCl [(q3796, .inr (1, [.ref (u3834 0), .ref (u3834 1), .ref (u3834 2), .ref (u3834 6), .int 0, .int 0, .int 0, .int 0, .int 2, .int 0, .int 0])), (u3951 0, .inr (5, [.ref (u3951 1), .ref (u3951 2), .ref (u3951 3), .ref (u3951 4), .ref (u3951 5), .ref (u3951 6), .ref (u3951 7), .int 0, .int (-1), .int 0, .int 0, .int 0, .int 0])), (u3951 2, .inl (cyI, 8, .inl (upd (fun _ => 0) 6 0))), (u3951 3, .inl (cyI, 8, .inl (fun _ => 0)))] H := hP
  have hD : va_D A [(q3796, .inr (1, [.ref (u3834 0), .ref (u3834 1), .ref (u3834 2), .ref (u3834 6), .int 0, .int 0, .int 0, .int 0, .int 2, .int 0, .int 0])), (u3951 0, .inr (5, [.ref (u3951 1), .ref (u3951 2), .ref (u3951 3), .ref (u3951 4), .ref (u3951 5), .ref (u3951 6), .ref (u3951 7), .int 0, .int (-1), .int 0, .int 0, .int 0, .int 0])), (u3951 2, .inl (cyI, 8, .inl (upd (fun _ => 0) 6 0))), (u3951 3, .inl (cyI, 8, .inl (fun _ => 0)))] := hD
  rw [upd_z] at hP hD
  refine lv_aload_n hx hb dX5_startAs_51 rfl (lv_at hl 1 rfl) ?_
  refine va_get (D := (dC, dI)) (ci := 5) (v := .ref (u3951 3)) (C := RX5) (T := TX5) (N := 13) hx hb hts hi5 hown hK hP 1 rfl rfl 2 (by decide) (hts _ (ow_m (k := 3) rfl)) (fun _ h9 => h9) rfl dX5_startAs_52 ?_
  refine lv_iload_n hx hb dX5_startAs_55 rfl (lv_at hl 0 rfl) ?_
  refine lv_iconst (v := 0) hx hb dX5_startAs_56 (by decide) ?_
  refine va_iast hx hb hK hP hD hS 3 1 rfl rfl (vp_i (a := 6) (by decide) (by decide) (by decide)) dX5_startAs_57 (fun H locs hP hD hS => ?_)
  have hP : va_P (dC, dI) vwCl [(q3796, .inr (1, [.ref (u3834 0), .ref (u3834 1), .ref (u3834 2), .ref (u3834 6), .int 0, .int 0, .int 0, .int 0, .int 2, .int 0, .int 0])), (u3951 0, .inr (5, [.ref (u3951 1), .ref (u3951 2), .ref (u3951 3), .ref (u3951 4), .ref (u3951 5), .ref (u3951 6), .ref (u3951 7), .int 0, .int (-1), .int 0, .int 0, .int 0, .int 0])), (u3951 2, .inl (cyI, 8, .inl (fun _ => 0))), (u3951 3, .inl (cyI, 8, .inl (upd (fun _ => 0) 6 0)))] H := hP
  have hD : va_D A [(q3796, .inr (1, [.ref (u3834 0), .ref (u3834 1), .ref (u3834 2), .ref (u3834 6), .int 0, .int 0, .int 0, .int 0, .int 2, .int 0, .int 0])), (u3951 0, .inr (5, [.ref (u3951 1), .ref (u3951 2), .ref (u3951 3), .ref (u3951 4), .ref (u3951 5), .ref (u3951 6), .ref (u3951 7), .int 0, .int (-1), .int 0, .int 0, .int 0, .int 0])), (u3951 2, .inl (cyI, 8, .inl (fun _ => 0))), (u3951 3, .inl (cyI, 8, .inl (upd (fun _ => 0) 6 0)))] := hD
  rw [upd_z] at hP hD
  refine lv_iinc (v := 7) (lv' := [(2, .int 7), (0, .ref (u3951 0)), (1, .ref q3796)]) hx hb dX5_startAs_58 hl (k := 0) rfl (by decide) (by decide) rfl (fun ls hl => ?_)
  refine lv_goto (tgt := 38) hx hb dX5_startAs_61 (by decide) ?_
  refine lv_iload_n hx hb dX5_startAs_38 rfl (lv_at hl 0 rfl) ?_
  refine lv_bipush (v := 8) hx hb dX5_startAs_39 (by decide) ?_
  refine lv_icmp_ge (tgt := 64) hx hb dX5_startAs_41 (by decide) (fun c3970 => absurd c3970 (by decide)) (fun _ => ?_)
  refine lv_aload_n hx hb dX5_startAs_44 rfl (lv_at hl 1 rfl) ?_
  refine va_get (D := (dC, dI)) (ci := 5) (v := .ref (u3951 2)) (C := RX5) (T := TX5) (N := 13) hx hb hts hi5 hown hK hP 1 rfl rfl 1 (by decide) (hts _ (ow_m (k := 2) rfl)) (fun _ h9 => h9) rfl dX5_startAs_45 ?_
  refine lv_iload_n hx hb dX5_startAs_48 rfl (lv_at hl 0 rfl) ?_
  refine lv_iconst (v := 0) hx hb dX5_startAs_49 (by decide) ?_
  refine va_iast hx hb hK hP hD hS 2 1 rfl rfl (vp_i (a := 7) (by decide) (by decide) (by decide)) dX5_startAs_50 (fun H locs hP hD hS => ?_)
  have hP : va_P (dC, dI) vwCl [(q3796, .inr (1, [.ref (u3834 0), .ref (u3834 1), .ref (u3834 2), .ref (u3834 6), .int 0, .int 0, .int 0, .int 0, .int 2, .int 0, .int 0])), (u3951 0, .inr (5, [.ref (u3951 1), .ref (u3951 2), .ref (u3951 3), .ref (u3951 4), .ref (u3951 5), .ref (u3951 6), .ref (u3951 7), .int 0, .int (-1), .int 0, .int 0, .int 0, .int 0])), (u3951 2, .inl (cyI, 8, .inl (upd (fun _ => 0) 7 0))), (u3951 3, .inl (cyI, 8, .inl (fun _ => 0)))] H := hP
  have hD : va_D A [(q3796, .inr (1, [.ref (u3834 0), .ref (u3834 1), .ref (u3834 2), .ref (u3834 6), .int 0, .int 0, .int 0, .int 0, .int 2, .int 0, .int 0])), (u3951 0, .inr (5, [.ref (u3951 1), .ref (u3951 2), .ref (u3951 3), .ref (u3951 4), .ref (u3951 5), .ref (u3951 6), .ref (u3951 7), .int 0, .int (-1), .int 0, .int 0, .int 0, .int 0])), (u3951 2, .inl (cyI, 8, .inl (upd (fun _ => 0) 7 0))), (u3951 3, .inl (cyI, 8, .inl (fun _ => 0)))] := hD
  rw [upd_z] at hP hD
  refine lv_aload_n hx hb dX5_startAs_51 rfl (lv_at hl 1 rfl) ?_
  refine va_get (D := (dC, dI)) (ci := 5) (v := .ref (u3951 3)) (C := RX5) (T := TX5) (N := 13) hx hb hts hi5 hown hK hP 1 rfl rfl 2 (by decide) (hts _ (ow_m (k := 3) rfl)) (fun _ h9 => h9) rfl dX5_startAs_52 ?_
  refine lv_iload_n hx hb dX5_startAs_55 rfl (lv_at hl 0 rfl) ?_
  refine lv_iconst (v := 0) hx hb dX5_startAs_56 (by decide) ?_
  refine va_iast hx hb hK hP hD hS 3 1 rfl rfl (vp_i (a := 7) (by decide) (by decide) (by decide)) dX5_startAs_57 (fun H locs hP hD hS => ?_)
  have hP : va_P (dC, dI) vwCl [(q3796, .inr (1, [.ref (u3834 0), .ref (u3834 1), .ref (u3834 2), .ref (u3834 6), .int 0, .int 0, .int 0, .int 0, .int 2, .int 0, .int 0])), (u3951 0, .inr (5, [.ref (u3951 1), .ref (u3951 2), .ref (u3951 3), .ref (u3951 4), .ref (u3951 5), .ref (u3951 6), .ref (u3951 7), .int 0, .int (-1), .int 0, .int 0, .int 0, .int 0])), (u3951 2, .inl (cyI, 8, .inl (fun _ => 0))), (u3951 3, .inl (cyI, 8, .inl (upd (fun _ => 0) 7 0)))] H := hP
  have hD : va_D A [(q3796, .inr (1, [.ref (u3834 0), .ref (u3834 1), .ref (u3834 2), .ref (u3834 6), .int 0, .int 0, .int 0, .int 0, .int 2, .int 0, .int 0])), (u3951 0, .inr (5, [.ref (u3951 1), .ref (u3951 2), .ref (u3951 3), .ref (u3951 4), .ref (u3951 5), .ref (u3951 6), .ref (u3951 7), .int 0, .int (-1), .int 0, .int 0, .int 0, .int 0])), (u3951 2, .inl (cyI, 8, .inl (fun _ => 0))), (u3951 3, .inl (cyI, 8, .inl (upd (fun _ => 0) 7 0)))] := hD
  rw [upd_z] at hP hD
  refine lv_iinc (v := 8) (lv' := [(2, .int 8), (0, .ref (u3951 0)), (1, .ref q3796)]) hx hb dX5_startAs_58 hl (k := 0) rfl (by decide) (by decide) rfl (fun ls hl => ?_)
  refine lv_goto (tgt := 38) hx hb dX5_startAs_61 (by decide) ?_
  refine lv_iload_n hx hb dX5_startAs_38 rfl (lv_at hl 0 rfl) ?_
  refine lv_bipush (v := 8) hx hb dX5_startAs_39 (by decide) ?_
  refine lv_icmp_ge (tgt := 64) hx hb dX5_startAs_41 (by decide) (fun _ => ?_) (fun c3971 => absurd (by decide) c3971)
  refine lv_aload_n hx hb dX5_startAs_64 rfl (lv_at hl 1 rfl) ?_
  refine lv_iconst (v := (-1)) hx hb dX5_startAs_65 (by decide) ?_
  refine va_put (D := (dC, dI)) (ci := 5) (v := .int (-1)) (ty := .int) (C := RX5) (T := TX5) (N := 13) hx hb hts hi5 tyX5 tyX5_ok nmX5 hown hK hP hD hS 1 rfl rfl 8 (by decide) (hts _ (ow_m (k := 4) rfl)) (fun _ h9 => h9) rfl (by decide +kernel) rfl rfl (Nat.le_of_ble_eq_true rfl) dX5_startAs_66 (fun H locs hP hD hS => ?_)
  have hP : va_P (dC, dI) vwCl [(q3796, .inr (1, [.ref (u3834 0), .ref (u3834 1), .ref (u3834 2), .ref (u3834 6), .int 0, .int 0, .int 0, .int 0, .int 2, .int 0, .int 0])), (u3951 0, .inr (5, [.ref (u3951 1), .ref (u3951 2), .ref (u3951 3), .ref (u3951 4), .ref (u3951 5), .ref (u3951 6), .ref (u3951 7), .int 0, .int (-1), .int 0, .int 0, .int 0, .int 0])), (u3951 2, .inl (cyI, 8, .inl (fun _ => 0))), (u3951 3, .inl (cyI, 8, .inl (fun _ => 0)))] H := hP
  have hD : va_D A [(q3796, .inr (1, [.ref (u3834 0), .ref (u3834 1), .ref (u3834 2), .ref (u3834 6), .int 0, .int 0, .int 0, .int 0, .int 2, .int 0, .int 0])), (u3951 0, .inr (5, [.ref (u3951 1), .ref (u3951 2), .ref (u3951 3), .ref (u3951 4), .ref (u3951 5), .ref (u3951 6), .ref (u3951 7), .int 0, .int (-1), .int 0, .int 0, .int 0, .int 0])), (u3951 2, .inl (cyI, 8, .inl (fun _ => 0))), (u3951 3, .inl (cyI, 8, .inl (fun _ => 0)))] := hD
  refine lv_aload_n hx hb dX5_startAs_69 rfl (lv_at hl 1 rfl) ?_
  refine lv_iconst (v := 0) hx hb dX5_startAs_70 (by decide) ?_
  refine va_put (D := (dC, dI)) (ci := 5) (v := .int 0) (ty := .int) (C := RX5) (T := TX5) (N := 13) hx hb hts hi5 tyX5 tyX5_ok nmX5 hown hK hP hD hS 1 rfl rfl 9 (by decide) (hts _ (ow_m (k := 5) rfl)) (fun _ h9 => h9) rfl (by decide +kernel) rfl rfl (Nat.le_of_ble_eq_true rfl) dX5_startAs_71 (fun H locs hP hD hS => ?_)
  have hP : va_P (dC, dI) vwCl [(q3796, .inr (1, [.ref (u3834 0), .ref (u3834 1), .ref (u3834 2), .ref (u3834 6), .int 0, .int 0, .int 0, .int 0, .int 2, .int 0, .int 0])), (u3951 0, .inr (5, [.ref (u3951 1), .ref (u3951 2), .ref (u3951 3), .ref (u3951 4), .ref (u3951 5), .ref (u3951 6), .ref (u3951 7), .int 0, .int (-1), .int 0, .int 0, .int 0, .int 0])), (u3951 2, .inl (cyI, 8, .inl (fun _ => 0))), (u3951 3, .inl (cyI, 8, .inl (fun _ => 0)))] H := hP
  have hD : va_D A [(q3796, .inr (1, [.ref (u3834 0), .ref (u3834 1), .ref (u3834 2), .ref (u3834 6), .int 0, .int 0, .int 0, .int 0, .int 2, .int 0, .int 0])), (u3951 0, .inr (5, [.ref (u3951 1), .ref (u3951 2), .ref (u3951 3), .ref (u3951 4), .ref (u3951 5), .ref (u3951 6), .ref (u3951 7), .int 0, .int (-1), .int 0, .int 0, .int 0, .int 0])), (u3951 2, .inl (cyI, 8, .inl (fun _ => 0))), (u3951 3, .inl (cyI, 8, .inl (fun _ => 0)))] := hD
  refine lv_aload_n hx hb dX5_startAs_74 rfl (lv_at hl 1 rfl) ?_
  refine lv_iconst (v := 0) hx hb dX5_startAs_75 (by decide) ?_
  refine va_put (D := (dC, dI)) (ci := 5) (v := .int 0) (ty := .int) (C := RX5) (T := TX5) (N := 13) hx hb hts hi5 tyX5 tyX5_ok nmX5 hown hK hP hD hS 1 rfl rfl 10 (by decide) (hts _ (ow_m (k := 6) rfl)) (fun _ h9 => h9) rfl (by decide +kernel) rfl rfl (Nat.le_of_ble_eq_true rfl) dX5_startAs_76 (fun H locs hP hD hS => ?_)
  have hP : va_P (dC, dI) vwCl [(q3796, .inr (1, [.ref (u3834 0), .ref (u3834 1), .ref (u3834 2), .ref (u3834 6), .int 0, .int 0, .int 0, .int 0, .int 2, .int 0, .int 0])), (u3951 0, .inr (5, [.ref (u3951 1), .ref (u3951 2), .ref (u3951 3), .ref (u3951 4), .ref (u3951 5), .ref (u3951 6), .ref (u3951 7), .int 0, .int (-1), .int 0, .int 0, .int 0, .int 0])), (u3951 2, .inl (cyI, 8, .inl (fun _ => 0))), (u3951 3, .inl (cyI, 8, .inl (fun _ => 0)))] H := hP
  have hD : va_D A [(q3796, .inr (1, [.ref (u3834 0), .ref (u3834 1), .ref (u3834 2), .ref (u3834 6), .int 0, .int 0, .int 0, .int 0, .int 2, .int 0, .int 0])), (u3951 0, .inr (5, [.ref (u3951 1), .ref (u3951 2), .ref (u3951 3), .ref (u3951 4), .ref (u3951 5), .ref (u3951 6), .ref (u3951 7), .int 0, .int (-1), .int 0, .int 0, .int 0, .int 0])), (u3951 2, .inl (cyI, 8, .inl (fun _ => 0))), (u3951 3, .inl (cyI, 8, .inl (fun _ => 0)))] := hD
  refine lv_aload_n hx hb dX5_startAs_79 rfl (lv_at hl 1 rfl) ?_
  refine lv_aload_n hx hb dX5_startAs_80 rfl (lv_at hl 2 rfl) ?_
  refine va_get (D := (dC, dI)) (ci := 1) (v := .int 0) (C := RX1) (T := TX1) (N := 11) hx hb hts hi1 hown hK hP 0 rfl rfl 10 (by decide) (hts _ (ow_m (k := 7) rfl)) (fun _ h9 => h9) rfl dX5_startAs_81 ?_
  refine va_put (D := (dC, dI)) (ci := 5) (v := .int 0) (ty := .int) (C := RX5) (T := TX5) (N := 13) hx hb hts hi5 tyX5 tyX5_ok nmX5 hown hK hP hD hS 1 rfl rfl 11 (by decide) (hts _ (ow_m (k := 8) rfl)) (fun _ h9 => h9) rfl (by decide +kernel) rfl rfl (Nat.le_of_ble_eq_true rfl) dX5_startAs_84 (fun H locs hP hD hS => ?_)
  have hP : va_P (dC, dI) vwCl [(q3796, .inr (1, [.ref (u3834 0), .ref (u3834 1), .ref (u3834 2), .ref (u3834 6), .int 0, .int 0, .int 0, .int 0, .int 2, .int 0, .int 0])), (u3951 0, .inr (5, [.ref (u3951 1), .ref (u3951 2), .ref (u3951 3), .ref (u3951 4), .ref (u3951 5), .ref (u3951 6), .ref (u3951 7), .int 0, .int (-1), .int 0, .int 0, .int 0, .int 0])), (u3951 2, .inl (cyI, 8, .inl (fun _ => 0))), (u3951 3, .inl (cyI, 8, .inl (fun _ => 0)))] H := hP
  have hD : va_D A [(q3796, .inr (1, [.ref (u3834 0), .ref (u3834 1), .ref (u3834 2), .ref (u3834 6), .int 0, .int 0, .int 0, .int 0, .int 2, .int 0, .int 0])), (u3951 0, .inr (5, [.ref (u3951 1), .ref (u3951 2), .ref (u3951 3), .ref (u3951 4), .ref (u3951 5), .ref (u3951 6), .ref (u3951 7), .int 0, .int (-1), .int 0, .int 0, .int 0, .int 0])), (u3951 2, .inl (cyI, 8, .inl (fun _ => 0))), (u3951 3, .inl (cyI, 8, .inl (fun _ => 0)))] := hD
  refine lv_aload_n hx hb dX5_startAs_87 rfl (lv_at hl 1 rfl) ?_
  refine lv_iconst (v := 0) hx hb dX5_startAs_88 (by decide) ?_
  refine va_put (D := (dC, dI)) (ci := 5) (v := .int 0) (ty := .int) (C := RX5) (T := TX5) (N := 13) hx hb hts hi5 tyX5 tyX5_ok nmX5 hown hK hP hD hS 1 rfl rfl 12 (by decide) (hts _ (ow_m (k := 9) rfl)) (fun _ h9 => h9) rfl (by decide +kernel) rfl rfl (Nat.le_of_ble_eq_true rfl) dX5_startAs_89 (fun H locs hP hD hS => ?_)
  have hP : va_P (dC, dI) vwCl [(q3796, .inr (1, [.ref (u3834 0), .ref (u3834 1), .ref (u3834 2), .ref (u3834 6), .int 0, .int 0, .int 0, .int 0, .int 2, .int 0, .int 0])), (u3951 0, .inr (5, [.ref (u3951 1), .ref (u3951 2), .ref (u3951 3), .ref (u3951 4), .ref (u3951 5), .ref (u3951 6), .ref (u3951 7), .int 0, .int (-1), .int 0, .int 0, .int 0, .int 0])), (u3951 2, .inl (cyI, 8, .inl (fun _ => 0))), (u3951 3, .inl (cyI, 8, .inl (fun _ => 0)))] H := hP
  have hD : va_D A [(q3796, .inr (1, [.ref (u3834 0), .ref (u3834 1), .ref (u3834 2), .ref (u3834 6), .int 0, .int 0, .int 0, .int 0, .int 2, .int 0, .int 0])), (u3951 0, .inr (5, [.ref (u3951 1), .ref (u3951 2), .ref (u3951 3), .ref (u3951 4), .ref (u3951 5), .ref (u3951 6), .ref (u3951 7), .int 0, .int (-1), .int 0, .int 0, .int 0, .int 0])), (u3951 2, .inl (cyI, 8, .inl (fun _ => 0))), (u3951 3, .inl (cyI, 8, .inl (fun _ => 0)))] := hD
  exact W.vret hx hb hr (fun t ht hW => ⟨⟨(), rfl, trivial, cE.of ht hP hD [0, 1, 2, 3] (by decide) rfl⟩, hS.F ht⟩) hS.2.2 dX5_startAs_92
def wo_k_X4_forget_v2 : List Cond := [.fieldLink RX4 25 "ReplicaChain$Sightings" "count" "I"]
def wq_k_X4_forget_v2 : List Cond := .code yX4_forget cX4_forget 1 none :: (wo_k_X4_forget_v2 ++ (wsX40 ++ []))
theorem gd_k_X4_forget_v2 : Gd wq_k_X4_forget_v2 := gd_c (gd_a (gd_o (by decide +kernel)) (gd_a gd_u gd_0))
abbrev wc_k_X4_forget_v2 (cyB cyI cyJ cyZ cyO : ClassId) (q3902 : Nat) (u3912 : Nat → Nat) : va_W := [(q3902, .inr (4, [.ref (u3912 0), .ref (u3912 1), .ref (u3912 2), .ref (u3912 3), .int 0]))]
set_option maxHeartbeats 4000000 in
set_option maxRecDepth 100000 in
theorem k_X4_forget_v2 (l : Launch) (dC : Nat → ClassId) (dI : Nat → Nat → Nat) (cyB cyI cyJ cyZ cyO : ClassId) (q3902 : Nat) (u3912 : Nat → Nat) (sz : Nat) : Met l yX4_forget wq_k_X4_forget_v2 ({ frames := 0, cells := 0, slots := 0, locals := 0 }) (va_Pc [.ref q3902] (cB (dC, dI) (kT cyB cyI cyJ cyZ cyO) (wc_k_X4_forget_v2 cyB cyI cyJ cyZ cyO q3902 u3912) sz)) (va_Qv (fun _ => True) (fun (u : Unit) t => cE (dC, dI) (va_A (wc_k_X4_forget_v2 cyB cyI cyJ cyZ cyO q3902 u3912) sz) ([(q3902, .inr (4, [.ref (u3912 0), .ref (u3912 1), .ref (u3912 2), .ref (u3912 3), .int 0]))]) t.heap) (va_A (wc_k_X4_forget_v2 cyB cyI cyJ cyZ cyO q3902 u3912) sz)) 0 0 (va_A (wc_k_X4_forget_v2 cyB cyI cyJ cyZ cyO q3902 u3912) sz) := by
  refine Met.ofW (cc := cX4_forget) (maxL := 1) (ret := none) (by decide) rfl ?_
  intro p e s m args below meth c s₁ B hml hv
  obtain ⟨rfl, hsz, hP, hKN, hD0⟩ := hv
  have hx := B.exec
  have hb := B.bytes
  have hr := B.returns
  have hts := atoms_spec (ws := wq_k_X4_forget_v2) B.pre
  have hown : s.vm.findClass RX4 = some m.cls := findClass_of_methodNamed B.named
  have hlocks := B.notSynchronized
  have hK := hKN.1
  have hfix : CallFix p m c cX4_forget 1 s [.ref q3902].toArray wq_k_X4_forget_v2 RX4 := ⟨hx, hb, hml, hown, hts⟩
  have hi4 : ∀ w ∈ wsX40, w ∈ wq_k_X4_forget_v2 := (sb_c sb_l)
  subst hsz
  have hD := hD0.self (sz := s.heap.size)
  generalize hAe : va_A (wc_k_X4_forget_v2 cyB cyI cyJ cyZ cyO q3902 u3912) s.heap.size = A at hD ⊢
  have hA : ∀ q : Nat, s.heap.size ≤ q → A q := fun q h => by rw [← hAe]; exact Or.inr h
  have hS : va_S A s.heap s.heap [] := va_S.rf
  have hl := lv_entry ([.ref q3902]) (n := 1) (Nat.le_of_ble_eq_true rfl)
  rw [lg_entry_eq]
  generalize (lg_sl ([.ref q3902]) ++ List.replicate (1 - (lg_sl ([.ref q3902])).length) Slot.unset).toArray = ls at hl ⊢
  have hl : lv_has ls 1 [(0, .ref q3902)] := hl
  refine lv_aload_n hx hb dX4_forget_0 rfl (lv_at hl 0 rfl) ?_
  refine lv_iconst (v := 0) hx hb dX4_forget_1 (by decide) ?_
  refine va_put (D := (dC, dI)) (ci := 4) (v := .int 0) (ty := .int) (C := RX4) (T := TX4) (N := 5) hx hb hts hi4 tyX4 tyX4_ok nmX4 hown hK hP hD hS 0 rfl rfl 4 (by decide) (hts _ (ow_m (k := 0) rfl)) (fun _ h9 => h9) rfl (by decide +kernel) rfl rfl (Nat.le_of_ble_eq_true rfl) dX4_forget_2 (fun H locs hP hD hS => ?_)
  have hP : va_P (dC, dI) vwCl [(q3902, .inr (4, [.ref (u3912 0), .ref (u3912 1), .ref (u3912 2), .ref (u3912 3), .int 0]))] H := hP
  have hD : va_D A [(q3902, .inr (4, [.ref (u3912 0), .ref (u3912 1), .ref (u3912 2), .ref (u3912 3), .int 0]))] := hD
  exact W.vret hx hb hr (fun t ht hW => ⟨⟨(), rfl, trivial, cE.of ht hP hD [0] (by decide) rfl⟩, hS.F ht⟩) hS.2.2 dX4_forget_5
def wo_k_X5_init_v12 : List Cond := [.methodLink RX5 3 objectInit, .instanceMethod objectInit, .code objectInit ⟨#[0xb1]⟩ 1 none, .arrayClass .int, .fieldLink RX5 9 "ReplicaChain$State" "row" "[I", .fieldLink RX5 15 "ReplicaChain$State" "has" "[I", .fieldLink RX5 18 "ReplicaChain$State" "clean" "[I", .fieldLink RX5 21 "ReplicaChain$State" "downDue" "[I", .fieldLink RX5 24 "ReplicaChain$State" "upDue" "[I", .fieldLink RX5 27 "ReplicaChain$State" "keys" "[I", .fieldLink RX5 30 "ReplicaChain$State" "values" "[I", .fieldLink RX5 33 "ReplicaChain$State" "copier" "I"]
def wq_k_X5_init_v12 : List Cond := .code yX5_init cX5_init 1 none :: (wo_k_X5_init_v12 ++ (wsX50 ++ []))
theorem gd_k_X5_init_v12 : Gd wq_k_X5_init_v12 := gd_c (gd_a (gd_o (by decide +kernel)) (gd_a gd_u gd_0))
abbrev wc_k_X5_init_v12 (cyB cyI cyJ cyZ cyO : ClassId) (q3982 : Nat) : va_W := [(q3982, .inr (5, [.null, .null, .null, .null, .null, .null, .null, .int 0, .int 0, .int 0, .int 0, .int 0, .int 0]))]
set_option maxHeartbeats 4000000 in
set_option maxRecDepth 100000 in
theorem k_X5_init_v12 (l : Launch) (dC : Nat → ClassId) (dI : Nat → Nat → Nat) (cyB cyI cyJ cyZ cyO : ClassId) (q3982 : Nat) (sz : Nat) : Met l yX5_init wq_k_X5_init_v12 ({ frames := 1, cells := 7, slots := 760, locals := 20 }) (va_Pc [.ref q3982] (cB (dC, dI) (kT cyB cyI cyJ cyZ cyO) (wc_k_X5_init_v12 cyB cyI cyJ cyZ cyO q3982) sz)) (va_Qv (fun _ => True) (fun (u : Nat → Nat) t => cE (dC, dI) (va_A (wc_k_X5_init_v12 cyB cyI cyJ cyZ cyO q3982) sz) ([(q3982, .inr (5, [.ref (u 0), .ref (u 1), .ref (u 2), .ref (u 3), .ref (u 4), .ref (u 5), .ref (u 6), .int 0, .int (-1), .int 0, .int 0, .int 0, .int 0])), (u 0, .inl (cyI, 6, .inl (fun _ => 0))), (u 1, .inl (cyI, 8, .inl (fun _ => 0))), (u 2, .inl (cyI, 8, .inl (fun _ => 0))), (u 3, .inl (cyI, 328, .inl (fun _ => 0))), (u 4, .inl (cyI, 328, .inl (fun _ => 0))), (u 5, .inl (cyI, 41, .inl (fun _ => 0))), (u 6, .inl (cyI, 41, .inl (fun _ => 0)))]) t.heap) (va_A (wc_k_X5_init_v12 cyB cyI cyJ cyZ cyO q3982) sz)) 7 760 (va_A (wc_k_X5_init_v12 cyB cyI cyJ cyZ cyO q3982) sz) := by
  refine Met.ofW (cc := cX5_init) (maxL := 1) (ret := none) (by decide) rfl ?_
  intro p e s m args below meth c s₁ B hml hv
  obtain ⟨rfl, hsz, hP, hKN, hD0⟩ := hv
  have hx := B.exec
  have hb := B.bytes
  have hr := B.returns
  have hts := atoms_spec (ws := wq_k_X5_init_v12) B.pre
  have hown : s.vm.findClass RX5 = some m.cls := findClass_of_methodNamed B.named
  have hlocks := B.notSynchronized
  have hin : meth.name = "<init>" := (name_of_methodNamed B.named B.method).1
  have hK := hKN.1
  have hfix : CallFix p m c cX5_init 1 s [.ref q3982].toArray wq_k_X5_init_v12 RX5 := ⟨hx, hb, hml, hown, hts⟩
  have hi5 : ∀ w ∈ wsX50, w ∈ wq_k_X5_init_v12 := (sb_c sb_l)
  subst hsz
  have hD := hD0.self (sz := s.heap.size)
  generalize hAe : va_A (wc_k_X5_init_v12 cyB cyI cyJ cyZ cyO q3982) s.heap.size = A at hD ⊢
  have hA : ∀ q : Nat, s.heap.size ≤ q → A q := fun q h => by rw [← hAe]; exact Or.inr h
  have hS : va_S A s.heap s.heap [] := va_S.rf
  have hl := lv_entry ([.ref q3982]) (n := 1) (Nat.le_of_ble_eq_true rfl)
  rw [lg_entry_eq]
  generalize (lg_sl ([.ref q3982]) ++ List.replicate (1 - (lg_sl ([.ref q3982])).length) Slot.unset).toArray = ls at hl ⊢
  have hl : lv_has ls 1 [(0, .ref q3982)] := hl
  refine lv_aload_n hx hb dX5_init_0 rfl (lv_at hl 0 rfl) ?_
  refine W.objInit hx hb hown (hts _ (ow_m (k := 0) rfl)) (hts _ (ow_m (k := 1) rfl)) (hts _ (ow_m (k := 2) rfl)) rfl (by rw [hml]; exact hl.1) rfl dX5_init_1 (Nat.le_of_ble_eq_true rfl) (Nat.le_of_ble_eq_true rfl) ?_
  refine W.eq (g2 := F0 m 4 ls []) rfl ?_
  refine lv_aload_n hx hb dX5_init_4 rfl (lv_at hl 0 rfl) ?_
  refine lv_bipush (v := 6) hx hb dX5_init_5 (by decide) ?_
  refine g_newa (a0 := (6, .inl (fun _ => 0))) hx hb (hts _ (ow_m (k := 3) rfl)) rfl hKN hP hD hS hA 1 rfl rfl (fun _ => rfl) (by decide) (by decide) (by decide) (Nat.le_of_ble_eq_true rfl) (Nat.le_of_ble_eq_true rfl) dX5_init_7 (fun q3990 H hP hD hS => ?_)
  have hP : va_P (dC, dI) vwCl [(q3982, .inr (5, [.null, .null, .null, .null, .null, .null, .null, .int 0, .int 0, .int 0, .int 0, .int 0, .int 0])), (q3990, .inl (cyI, 6, .inl (fun _ => 0)))] H := hP
  have hD : va_D A [(q3982, .inr (5, [.null, .null, .null, .null, .null, .null, .null, .int 0, .int 0, .int 0, .int 0, .int 0, .int 0])), (q3990, .inl (cyI, 6, .inl (fun _ => 0)))] := hD
  refine W.widen (k := 1) (n := 6) (by omega) (by omega) ?_
  refine va_putF (D := (dC, dI)) (ci := 5) (v := .ref q3990) (ty := .array .int) (C := RX5) (T := TX5) (N := 13) hx hb hts hi5 tyX5 tyX5_ok nmX5 hown hK hP hD hS 0 rfl rfl 0 (by decide) (hts _ (ow_m (k := 4) rfl)) (fun _ h9 => h9) rfl hin rfl (by decide +kernel) rfl rfl (Nat.le_of_ble_eq_true rfl) dX5_init_9 (fun H locs hP hD hS => ?_)
  have hP : va_P (dC, dI) vwCl [(q3982, .inr (5, [.ref q3990, .null, .null, .null, .null, .null, .null, .int 0, .int 0, .int 0, .int 0, .int 0, .int 0])), (q3990, .inl (cyI, 6, .inl (fun _ => 0)))] H := hP
  have hD : va_D A [(q3982, .inr (5, [.ref q3990, .null, .null, .null, .null, .null, .null, .int 0, .int 0, .int 0, .int 0, .int 0, .int 0])), (q3990, .inl (cyI, 6, .inl (fun _ => 0)))] := hD
  refine lv_aload_n hx hb dX5_init_12 rfl (lv_at hl 0 rfl) ?_
  refine lv_bipush (v := 8) hx hb dX5_init_13 (by decide) ?_
  refine g_newa (a0 := (8, .inl (fun _ => 0))) hx hb (hts _ (ow_m (k := 3) rfl)) rfl hKN hP hD hS hA 1 rfl rfl (fun _ => rfl) (by decide) (by decide) (by decide) (Nat.le_of_ble_eq_true rfl) (Nat.le_of_ble_eq_true rfl) dX5_init_15 (fun q3991 H hP hD hS => ?_)
  have hP : va_P (dC, dI) vwCl [(q3982, .inr (5, [.ref q3990, .null, .null, .null, .null, .null, .null, .int 0, .int 0, .int 0, .int 0, .int 0, .int 0])), (q3990, .inl (cyI, 6, .inl (fun _ => 0))), (q3991, .inl (cyI, 8, .inl (fun _ => 0)))] H := hP
  have hD : va_D A [(q3982, .inr (5, [.ref q3990, .null, .null, .null, .null, .null, .null, .int 0, .int 0, .int 0, .int 0, .int 0, .int 0])), (q3990, .inl (cyI, 6, .inl (fun _ => 0))), (q3991, .inl (cyI, 8, .inl (fun _ => 0)))] := hD
  refine W.widen (k := 2) (n := 14) (by omega) (by omega) ?_
  refine va_putF (D := (dC, dI)) (ci := 5) (v := .ref q3991) (ty := .array .int) (C := RX5) (T := TX5) (N := 13) hx hb hts hi5 tyX5 tyX5_ok nmX5 hown hK hP hD hS 0 rfl rfl 1 (by decide) (hts _ (ow_m (k := 5) rfl)) (fun _ h9 => h9) rfl hin rfl (by decide +kernel) rfl rfl (Nat.le_of_ble_eq_true rfl) dX5_init_17 (fun H locs hP hD hS => ?_)
  have hP : va_P (dC, dI) vwCl [(q3982, .inr (5, [.ref q3990, .ref q3991, .null, .null, .null, .null, .null, .int 0, .int 0, .int 0, .int 0, .int 0, .int 0])), (q3990, .inl (cyI, 6, .inl (fun _ => 0))), (q3991, .inl (cyI, 8, .inl (fun _ => 0)))] H := hP
  have hD : va_D A [(q3982, .inr (5, [.ref q3990, .ref q3991, .null, .null, .null, .null, .null, .int 0, .int 0, .int 0, .int 0, .int 0, .int 0])), (q3990, .inl (cyI, 6, .inl (fun _ => 0))), (q3991, .inl (cyI, 8, .inl (fun _ => 0)))] := hD
  refine lv_aload_n hx hb dX5_init_20 rfl (lv_at hl 0 rfl) ?_
  refine lv_bipush (v := 8) hx hb dX5_init_21 (by decide) ?_
  refine g_newa (a0 := (8, .inl (fun _ => 0))) hx hb (hts _ (ow_m (k := 3) rfl)) rfl hKN hP hD hS hA 1 rfl rfl (fun _ => rfl) (by decide) (by decide) (by decide) (Nat.le_of_ble_eq_true rfl) (Nat.le_of_ble_eq_true rfl) dX5_init_23 (fun q3992 H hP hD hS => ?_)
  have hP : va_P (dC, dI) vwCl [(q3982, .inr (5, [.ref q3990, .ref q3991, .null, .null, .null, .null, .null, .int 0, .int 0, .int 0, .int 0, .int 0, .int 0])), (q3990, .inl (cyI, 6, .inl (fun _ => 0))), (q3991, .inl (cyI, 8, .inl (fun _ => 0))), (q3992, .inl (cyI, 8, .inl (fun _ => 0)))] H := hP
  have hD : va_D A [(q3982, .inr (5, [.ref q3990, .ref q3991, .null, .null, .null, .null, .null, .int 0, .int 0, .int 0, .int 0, .int 0, .int 0])), (q3990, .inl (cyI, 6, .inl (fun _ => 0))), (q3991, .inl (cyI, 8, .inl (fun _ => 0))), (q3992, .inl (cyI, 8, .inl (fun _ => 0)))] := hD
  refine W.widen (k := 3) (n := 22) (by omega) (by omega) ?_
  refine va_putF (D := (dC, dI)) (ci := 5) (v := .ref q3992) (ty := .array .int) (C := RX5) (T := TX5) (N := 13) hx hb hts hi5 tyX5 tyX5_ok nmX5 hown hK hP hD hS 0 rfl rfl 2 (by decide) (hts _ (ow_m (k := 6) rfl)) (fun _ h9 => h9) rfl hin rfl (by decide +kernel) rfl rfl (Nat.le_of_ble_eq_true rfl) dX5_init_25 (fun H locs hP hD hS => ?_)
  have hP : va_P (dC, dI) vwCl [(q3982, .inr (5, [.ref q3990, .ref q3991, .ref q3992, .null, .null, .null, .null, .int 0, .int 0, .int 0, .int 0, .int 0, .int 0])), (q3990, .inl (cyI, 6, .inl (fun _ => 0))), (q3991, .inl (cyI, 8, .inl (fun _ => 0))), (q3992, .inl (cyI, 8, .inl (fun _ => 0)))] H := hP
  have hD : va_D A [(q3982, .inr (5, [.ref q3990, .ref q3991, .ref q3992, .null, .null, .null, .null, .int 0, .int 0, .int 0, .int 0, .int 0, .int 0])), (q3990, .inl (cyI, 6, .inl (fun _ => 0))), (q3991, .inl (cyI, 8, .inl (fun _ => 0))), (q3992, .inl (cyI, 8, .inl (fun _ => 0)))] := hD
  refine lv_aload_n hx hb dX5_init_28 rfl (lv_at hl 0 rfl) ?_
  refine lv_sipush (v := 328) hx hb dX5_init_29 (by decide) ?_
  refine g_newa (a0 := (328, .inl (fun _ => 0))) hx hb (hts _ (ow_m (k := 3) rfl)) rfl hKN hP hD hS hA 1 rfl rfl (fun _ => rfl) (by decide) (by decide) (by decide) (Nat.le_of_ble_eq_true rfl) (Nat.le_of_ble_eq_true rfl) dX5_init_32 (fun q3993 H hP hD hS => ?_)
  have hP : va_P (dC, dI) vwCl [(q3982, .inr (5, [.ref q3990, .ref q3991, .ref q3992, .null, .null, .null, .null, .int 0, .int 0, .int 0, .int 0, .int 0, .int 0])), (q3990, .inl (cyI, 6, .inl (fun _ => 0))), (q3991, .inl (cyI, 8, .inl (fun _ => 0))), (q3992, .inl (cyI, 8, .inl (fun _ => 0))), (q3993, .inl (cyI, 328, .inl (fun _ => 0)))] H := hP
  have hD : va_D A [(q3982, .inr (5, [.ref q3990, .ref q3991, .ref q3992, .null, .null, .null, .null, .int 0, .int 0, .int 0, .int 0, .int 0, .int 0])), (q3990, .inl (cyI, 6, .inl (fun _ => 0))), (q3991, .inl (cyI, 8, .inl (fun _ => 0))), (q3992, .inl (cyI, 8, .inl (fun _ => 0))), (q3993, .inl (cyI, 328, .inl (fun _ => 0)))] := hD
  refine W.widen (k := 4) (n := 350) (by omega) (by omega) ?_
  refine va_putF (D := (dC, dI)) (ci := 5) (v := .ref q3993) (ty := .array .int) (C := RX5) (T := TX5) (N := 13) hx hb hts hi5 tyX5 tyX5_ok nmX5 hown hK hP hD hS 0 rfl rfl 3 (by decide) (hts _ (ow_m (k := 7) rfl)) (fun _ h9 => h9) rfl hin rfl (by decide +kernel) rfl rfl (Nat.le_of_ble_eq_true rfl) dX5_init_34 (fun H locs hP hD hS => ?_)
  have hP : va_P (dC, dI) vwCl [(q3982, .inr (5, [.ref q3990, .ref q3991, .ref q3992, .ref q3993, .null, .null, .null, .int 0, .int 0, .int 0, .int 0, .int 0, .int 0])), (q3990, .inl (cyI, 6, .inl (fun _ => 0))), (q3991, .inl (cyI, 8, .inl (fun _ => 0))), (q3992, .inl (cyI, 8, .inl (fun _ => 0))), (q3993, .inl (cyI, 328, .inl (fun _ => 0)))] H := hP
  have hD : va_D A [(q3982, .inr (5, [.ref q3990, .ref q3991, .ref q3992, .ref q3993, .null, .null, .null, .int 0, .int 0, .int 0, .int 0, .int 0, .int 0])), (q3990, .inl (cyI, 6, .inl (fun _ => 0))), (q3991, .inl (cyI, 8, .inl (fun _ => 0))), (q3992, .inl (cyI, 8, .inl (fun _ => 0))), (q3993, .inl (cyI, 328, .inl (fun _ => 0)))] := hD
  refine lv_aload_n hx hb dX5_init_37 rfl (lv_at hl 0 rfl) ?_
  refine lv_sipush (v := 328) hx hb dX5_init_38 (by decide) ?_
  refine g_newa (a0 := (328, .inl (fun _ => 0))) hx hb (hts _ (ow_m (k := 3) rfl)) rfl hKN hP hD hS hA 1 rfl rfl (fun _ => rfl) (by decide) (by decide) (by decide) (Nat.le_of_ble_eq_true rfl) (Nat.le_of_ble_eq_true rfl) dX5_init_41 (fun q3994 H hP hD hS => ?_)
  have hP : va_P (dC, dI) vwCl [(q3982, .inr (5, [.ref q3990, .ref q3991, .ref q3992, .ref q3993, .null, .null, .null, .int 0, .int 0, .int 0, .int 0, .int 0, .int 0])), (q3990, .inl (cyI, 6, .inl (fun _ => 0))), (q3991, .inl (cyI, 8, .inl (fun _ => 0))), (q3992, .inl (cyI, 8, .inl (fun _ => 0))), (q3993, .inl (cyI, 328, .inl (fun _ => 0))), (q3994, .inl (cyI, 328, .inl (fun _ => 0)))] H := hP
  have hD : va_D A [(q3982, .inr (5, [.ref q3990, .ref q3991, .ref q3992, .ref q3993, .null, .null, .null, .int 0, .int 0, .int 0, .int 0, .int 0, .int 0])), (q3990, .inl (cyI, 6, .inl (fun _ => 0))), (q3991, .inl (cyI, 8, .inl (fun _ => 0))), (q3992, .inl (cyI, 8, .inl (fun _ => 0))), (q3993, .inl (cyI, 328, .inl (fun _ => 0))), (q3994, .inl (cyI, 328, .inl (fun _ => 0)))] := hD
  refine W.widen (k := 5) (n := 678) (by omega) (by omega) ?_
  refine va_putF (D := (dC, dI)) (ci := 5) (v := .ref q3994) (ty := .array .int) (C := RX5) (T := TX5) (N := 13) hx hb hts hi5 tyX5 tyX5_ok nmX5 hown hK hP hD hS 0 rfl rfl 4 (by decide) (hts _ (ow_m (k := 8) rfl)) (fun _ h9 => h9) rfl hin rfl (by decide +kernel) rfl rfl (Nat.le_of_ble_eq_true rfl) dX5_init_43 (fun H locs hP hD hS => ?_)
  have hP : va_P (dC, dI) vwCl [(q3982, .inr (5, [.ref q3990, .ref q3991, .ref q3992, .ref q3993, .ref q3994, .null, .null, .int 0, .int 0, .int 0, .int 0, .int 0, .int 0])), (q3990, .inl (cyI, 6, .inl (fun _ => 0))), (q3991, .inl (cyI, 8, .inl (fun _ => 0))), (q3992, .inl (cyI, 8, .inl (fun _ => 0))), (q3993, .inl (cyI, 328, .inl (fun _ => 0))), (q3994, .inl (cyI, 328, .inl (fun _ => 0)))] H := hP
  have hD : va_D A [(q3982, .inr (5, [.ref q3990, .ref q3991, .ref q3992, .ref q3993, .ref q3994, .null, .null, .int 0, .int 0, .int 0, .int 0, .int 0, .int 0])), (q3990, .inl (cyI, 6, .inl (fun _ => 0))), (q3991, .inl (cyI, 8, .inl (fun _ => 0))), (q3992, .inl (cyI, 8, .inl (fun _ => 0))), (q3993, .inl (cyI, 328, .inl (fun _ => 0))), (q3994, .inl (cyI, 328, .inl (fun _ => 0)))] := hD
  refine lv_aload_n hx hb dX5_init_46 rfl (lv_at hl 0 rfl) ?_
  refine lv_bipush (v := 41) hx hb dX5_init_47 (by decide) ?_
  refine g_newa (a0 := (41, .inl (fun _ => 0))) hx hb (hts _ (ow_m (k := 3) rfl)) rfl hKN hP hD hS hA 1 rfl rfl (fun _ => rfl) (by decide) (by decide) (by decide) (Nat.le_of_ble_eq_true rfl) (Nat.le_of_ble_eq_true rfl) dX5_init_49 (fun q3995 H hP hD hS => ?_)
  have hP : va_P (dC, dI) vwCl [(q3982, .inr (5, [.ref q3990, .ref q3991, .ref q3992, .ref q3993, .ref q3994, .null, .null, .int 0, .int 0, .int 0, .int 0, .int 0, .int 0])), (q3990, .inl (cyI, 6, .inl (fun _ => 0))), (q3991, .inl (cyI, 8, .inl (fun _ => 0))), (q3992, .inl (cyI, 8, .inl (fun _ => 0))), (q3993, .inl (cyI, 328, .inl (fun _ => 0))), (q3994, .inl (cyI, 328, .inl (fun _ => 0))), (q3995, .inl (cyI, 41, .inl (fun _ => 0)))] H := hP
  have hD : va_D A [(q3982, .inr (5, [.ref q3990, .ref q3991, .ref q3992, .ref q3993, .ref q3994, .null, .null, .int 0, .int 0, .int 0, .int 0, .int 0, .int 0])), (q3990, .inl (cyI, 6, .inl (fun _ => 0))), (q3991, .inl (cyI, 8, .inl (fun _ => 0))), (q3992, .inl (cyI, 8, .inl (fun _ => 0))), (q3993, .inl (cyI, 328, .inl (fun _ => 0))), (q3994, .inl (cyI, 328, .inl (fun _ => 0))), (q3995, .inl (cyI, 41, .inl (fun _ => 0)))] := hD
  refine W.widen (k := 6) (n := 719) (by omega) (by omega) ?_
  refine va_putF (D := (dC, dI)) (ci := 5) (v := .ref q3995) (ty := .array .int) (C := RX5) (T := TX5) (N := 13) hx hb hts hi5 tyX5 tyX5_ok nmX5 hown hK hP hD hS 0 rfl rfl 5 (by decide) (hts _ (ow_m (k := 9) rfl)) (fun _ h9 => h9) rfl hin rfl (by decide +kernel) rfl rfl (Nat.le_of_ble_eq_true rfl) dX5_init_51 (fun H locs hP hD hS => ?_)
  have hP : va_P (dC, dI) vwCl [(q3982, .inr (5, [.ref q3990, .ref q3991, .ref q3992, .ref q3993, .ref q3994, .ref q3995, .null, .int 0, .int 0, .int 0, .int 0, .int 0, .int 0])), (q3990, .inl (cyI, 6, .inl (fun _ => 0))), (q3991, .inl (cyI, 8, .inl (fun _ => 0))), (q3992, .inl (cyI, 8, .inl (fun _ => 0))), (q3993, .inl (cyI, 328, .inl (fun _ => 0))), (q3994, .inl (cyI, 328, .inl (fun _ => 0))), (q3995, .inl (cyI, 41, .inl (fun _ => 0)))] H := hP
  have hD : va_D A [(q3982, .inr (5, [.ref q3990, .ref q3991, .ref q3992, .ref q3993, .ref q3994, .ref q3995, .null, .int 0, .int 0, .int 0, .int 0, .int 0, .int 0])), (q3990, .inl (cyI, 6, .inl (fun _ => 0))), (q3991, .inl (cyI, 8, .inl (fun _ => 0))), (q3992, .inl (cyI, 8, .inl (fun _ => 0))), (q3993, .inl (cyI, 328, .inl (fun _ => 0))), (q3994, .inl (cyI, 328, .inl (fun _ => 0))), (q3995, .inl (cyI, 41, .inl (fun _ => 0)))] := hD
  refine lv_aload_n hx hb dX5_init_54 rfl (lv_at hl 0 rfl) ?_
  refine lv_bipush (v := 41) hx hb dX5_init_55 (by decide) ?_
  refine g_newa (a0 := (41, .inl (fun _ => 0))) hx hb (hts _ (ow_m (k := 3) rfl)) rfl hKN hP hD hS hA 1 rfl rfl (fun _ => rfl) (by decide) (by decide) (by decide) (Nat.le_of_ble_eq_true rfl) (Nat.le_of_ble_eq_true rfl) dX5_init_57 (fun q3996 H hP hD hS => ?_)
  have hP : va_P (dC, dI) vwCl [(q3982, .inr (5, [.ref q3990, .ref q3991, .ref q3992, .ref q3993, .ref q3994, .ref q3995, .null, .int 0, .int 0, .int 0, .int 0, .int 0, .int 0])), (q3990, .inl (cyI, 6, .inl (fun _ => 0))), (q3991, .inl (cyI, 8, .inl (fun _ => 0))), (q3992, .inl (cyI, 8, .inl (fun _ => 0))), (q3993, .inl (cyI, 328, .inl (fun _ => 0))), (q3994, .inl (cyI, 328, .inl (fun _ => 0))), (q3995, .inl (cyI, 41, .inl (fun _ => 0))), (q3996, .inl (cyI, 41, .inl (fun _ => 0)))] H := hP
  have hD : va_D A [(q3982, .inr (5, [.ref q3990, .ref q3991, .ref q3992, .ref q3993, .ref q3994, .ref q3995, .null, .int 0, .int 0, .int 0, .int 0, .int 0, .int 0])), (q3990, .inl (cyI, 6, .inl (fun _ => 0))), (q3991, .inl (cyI, 8, .inl (fun _ => 0))), (q3992, .inl (cyI, 8, .inl (fun _ => 0))), (q3993, .inl (cyI, 328, .inl (fun _ => 0))), (q3994, .inl (cyI, 328, .inl (fun _ => 0))), (q3995, .inl (cyI, 41, .inl (fun _ => 0))), (q3996, .inl (cyI, 41, .inl (fun _ => 0)))] := hD
  refine W.widen (k := 7) (n := 760) (by omega) (by omega) ?_
  refine va_putF (D := (dC, dI)) (ci := 5) (v := .ref q3996) (ty := .array .int) (C := RX5) (T := TX5) (N := 13) hx hb hts hi5 tyX5 tyX5_ok nmX5 hown hK hP hD hS 0 rfl rfl 6 (by decide) (hts _ (ow_m (k := 10) rfl)) (fun _ h9 => h9) rfl hin rfl (by decide +kernel) rfl rfl (Nat.le_of_ble_eq_true rfl) dX5_init_59 (fun H locs hP hD hS => ?_)
  have hP : va_P (dC, dI) vwCl [(q3982, .inr (5, [.ref q3990, .ref q3991, .ref q3992, .ref q3993, .ref q3994, .ref q3995, .ref q3996, .int 0, .int 0, .int 0, .int 0, .int 0, .int 0])), (q3990, .inl (cyI, 6, .inl (fun _ => 0))), (q3991, .inl (cyI, 8, .inl (fun _ => 0))), (q3992, .inl (cyI, 8, .inl (fun _ => 0))), (q3993, .inl (cyI, 328, .inl (fun _ => 0))), (q3994, .inl (cyI, 328, .inl (fun _ => 0))), (q3995, .inl (cyI, 41, .inl (fun _ => 0))), (q3996, .inl (cyI, 41, .inl (fun _ => 0)))] H := hP
  have hD : va_D A [(q3982, .inr (5, [.ref q3990, .ref q3991, .ref q3992, .ref q3993, .ref q3994, .ref q3995, .ref q3996, .int 0, .int 0, .int 0, .int 0, .int 0, .int 0])), (q3990, .inl (cyI, 6, .inl (fun _ => 0))), (q3991, .inl (cyI, 8, .inl (fun _ => 0))), (q3992, .inl (cyI, 8, .inl (fun _ => 0))), (q3993, .inl (cyI, 328, .inl (fun _ => 0))), (q3994, .inl (cyI, 328, .inl (fun _ => 0))), (q3995, .inl (cyI, 41, .inl (fun _ => 0))), (q3996, .inl (cyI, 41, .inl (fun _ => 0)))] := hD
  refine lv_aload_n hx hb dX5_init_62 rfl (lv_at hl 0 rfl) ?_
  refine lv_iconst (v := (-1)) hx hb dX5_init_63 (by decide) ?_
  refine va_put (D := (dC, dI)) (ci := 5) (v := .int (-1)) (ty := .int) (C := RX5) (T := TX5) (N := 13) hx hb hts hi5 tyX5 tyX5_ok nmX5 hown hK hP hD hS 0 rfl rfl 8 (by decide) (hts _ (ow_m (k := 11) rfl)) (fun _ h9 => h9) rfl (by decide +kernel) rfl rfl (Nat.le_of_ble_eq_true rfl) dX5_init_64 (fun H locs hP hD hS => ?_)
  have hP : va_P (dC, dI) vwCl [(q3982, .inr (5, [.ref q3990, .ref q3991, .ref q3992, .ref q3993, .ref q3994, .ref q3995, .ref q3996, .int 0, .int (-1), .int 0, .int 0, .int 0, .int 0])), (q3990, .inl (cyI, 6, .inl (fun _ => 0))), (q3991, .inl (cyI, 8, .inl (fun _ => 0))), (q3992, .inl (cyI, 8, .inl (fun _ => 0))), (q3993, .inl (cyI, 328, .inl (fun _ => 0))), (q3994, .inl (cyI, 328, .inl (fun _ => 0))), (q3995, .inl (cyI, 41, .inl (fun _ => 0))), (q3996, .inl (cyI, 41, .inl (fun _ => 0)))] H := hP
  have hD : va_D A [(q3982, .inr (5, [.ref q3990, .ref q3991, .ref q3992, .ref q3993, .ref q3994, .ref q3995, .ref q3996, .int 0, .int (-1), .int 0, .int 0, .int 0, .int 0])), (q3990, .inl (cyI, 6, .inl (fun _ => 0))), (q3991, .inl (cyI, 8, .inl (fun _ => 0))), (q3992, .inl (cyI, 8, .inl (fun _ => 0))), (q3993, .inl (cyI, 328, .inl (fun _ => 0))), (q3994, .inl (cyI, 328, .inl (fun _ => 0))), (q3995, .inl (cyI, 41, .inl (fun _ => 0))), (q3996, .inl (cyI, 41, .inl (fun _ => 0)))] := hD
  exact W.vret hx hb hr (fun t ht hW => ⟨⟨(fun k => match k with | 0 => q3990 | 1 => q3991 | 2 => q3992 | 3 => q3993 | 4 => q3994 | 5 => q3995 | _ => q3996), rfl, trivial, cE.of ht hP hD [0, 1, 2, 3, 4, 5, 6, 7] (by decide) rfl⟩, hS.F ht⟩) hS.2.2 dX5_init_67
def wo_k_X5_startAs_v3 : List Cond := [.fieldLink RX5 37 "ReplicaChain$Plan" "memberCount" "I", .fieldLink RX5 42 "ReplicaChain$State" "size" "I", .fieldLink RX5 15 "ReplicaChain$State" "has" "[I", .fieldLink RX5 18 "ReplicaChain$State" "clean" "[I", .fieldLink RX5 33 "ReplicaChain$State" "copier" "I", .fieldLink RX5 48 "ReplicaChain$State" "copyLeft" "I", .fieldLink RX5 51 "ReplicaChain$State" "tick" "I", .fieldLink RX5 54 "ReplicaChain$Plan" "draw" "I", .fieldLink RX5 57 "ReplicaChain$State" "seed" "I", .fieldLink RX5 60 "ReplicaChain$State" "dropped" "I"]
def wq_k_X5_startAs_v3 : List Cond := .code yX5_startAs cX5_startAs 3 none :: (wo_k_X5_startAs_v3 ++ (wsX10 ++ (wsX50 ++ [])))
theorem gd_k_X5_startAs_v3 : Gd wq_k_X5_startAs_v3 := gd_c (gd_a (gd_o (by decide +kernel)) (gd_a gd_u (gd_a gd_u gd_0)))
abbrev wc_k_X5_startAs_v3 (cyB cyI cyJ cyZ cyO : ClassId) (q3796 : Nat) (u3834 : Nat → Nat) (u4000 : Nat → Nat) : va_W := [(q3796, .inr (1, [.ref (u3834 0), .ref (u3834 1), .ref (u3834 2), .ref (u3834 6), .int 0, .int 0, .int 0, .int 0, .int 2, .int 0, .int 0])), (u4000 0, .inr (5, [.ref (u4000 1), .ref (u4000 2), .ref (u4000 3), .ref (u4000 4), .ref (u4000 5), .ref (u4000 6), .ref (u4000 7), .int 0, .int (-1), .int 0, .int 0, .int 0, .int 0])), (u4000 2, .inl (cyI, 8, .inl (fun _ => 0))), (u4000 3, .inl (cyI, 8, .inl (fun _ => 0)))]
set_option maxHeartbeats 4000000 in
set_option maxRecDepth 100000 in
theorem k_X5_startAs_v3 (l : Launch) (dC : Nat → ClassId) (dI : Nat → Nat → Nat) (cyB cyI cyJ cyZ cyO : ClassId) (q3796 : Nat) (u3834 : Nat → Nat) (u4000 : Nat → Nat) (sz : Nat) : Met l yX5_startAs wq_k_X5_startAs_v3 ({ frames := 0, cells := 0, slots := 0, locals := 0 }) (va_Pc [.ref (u4000 0), .ref q3796] (cB (dC, dI) (kT cyB cyI cyJ cyZ cyO) (wc_k_X5_startAs_v3 cyB cyI cyJ cyZ cyO q3796 u3834 u4000) sz)) (va_Qv (fun _ => True) (fun (u : Unit) t => cE (dC, dI) (va_A (wc_k_X5_startAs_v3 cyB cyI cyJ cyZ cyO q3796 u3834 u4000) sz) ([(q3796, .inr (1, [.ref (u3834 0), .ref (u3834 1), .ref (u3834 2), .ref (u3834 6), .int 0, .int 0, .int 0, .int 0, .int 2, .int 0, .int 0])), (u4000 0, .inr (5, [.ref (u4000 1), .ref (u4000 2), .ref (u4000 3), .ref (u4000 4), .ref (u4000 5), .ref (u4000 6), .ref (u4000 7), .int 0, .int (-1), .int 0, .int 0, .int 0, .int 0])), (u4000 2, .inl (cyI, 8, .inl (fun _ => 0))), (u4000 3, .inl (cyI, 8, .inl (fun _ => 0)))]) t.heap) (va_A (wc_k_X5_startAs_v3 cyB cyI cyJ cyZ cyO q3796 u3834 u4000) sz)) 0 0 (va_A (wc_k_X5_startAs_v3 cyB cyI cyJ cyZ cyO q3796 u3834 u4000) sz) := by
  refine Met.ofW (cc := cX5_startAs) (maxL := 3) (ret := none) (by decide) rfl ?_
  intro p e s m args below meth c s₁ B hml hv
  obtain ⟨rfl, hsz, hP, hKN, hD0⟩ := hv
  have hx := B.exec
  have hb := B.bytes
  have hr := B.returns
  have hts := atoms_spec (ws := wq_k_X5_startAs_v3) B.pre
  have hown : s.vm.findClass RX5 = some m.cls := findClass_of_methodNamed B.named
  have hlocks := B.notSynchronized
  have hK := hKN.1
  have hfix : CallFix p m c cX5_startAs 3 s [.ref (u4000 0), .ref q3796].toArray wq_k_X5_startAs_v3 RX5 := ⟨hx, hb, hml, hown, hts⟩
  have hi1 : ∀ w ∈ wsX10, w ∈ wq_k_X5_startAs_v3 := (sb_c sb_l)
  have hi5 : ∀ w ∈ wsX50, w ∈ wq_k_X5_startAs_v3 := (sb_c (sb_r sb_l))
  subst hsz
  have hD := hD0.self (sz := s.heap.size)
  generalize hAe : va_A (wc_k_X5_startAs_v3 cyB cyI cyJ cyZ cyO q3796 u3834 u4000) s.heap.size = A at hD ⊢
  have hA : ∀ q : Nat, s.heap.size ≤ q → A q := fun q h => by rw [← hAe]; exact Or.inr h
  have hS : va_S A s.heap s.heap [] := va_S.rf
  have hl := lv_entry ([.ref (u4000 0), .ref q3796]) (n := 3) (Nat.le_of_ble_eq_true rfl)
  rw [lg_entry_eq]
  generalize (lg_sl ([.ref (u4000 0), .ref q3796]) ++ List.replicate (3 - (lg_sl ([.ref (u4000 0), .ref q3796])).length) Slot.unset).toArray = ls at hl ⊢
  have hl : lv_has ls 3 [(0, .ref (u4000 0)), (1, .ref q3796)] := hl
  refine lv_aload_n hx hb dX5_startAs_0 rfl (lv_at hl 0 rfl) ?_
  refine lv_aload_n hx hb dX5_startAs_1 rfl (lv_at hl 1 rfl) ?_
  refine va_get (D := (dC, dI)) (ci := 1) (v := .int 0) (C := RX1) (T := TX1) (N := 11) hx hb hts hi1 hown hK hP 0 rfl rfl 4 (by decide) (hts _ (ow_m (k := 0) rfl)) (fun _ h9 => h9) rfl dX5_startAs_2 ?_
  refine va_put (D := (dC, dI)) (ci := 5) (v := .int 0) (ty := .int) (C := RX5) (T := TX5) (N := 13) hx hb hts hi5 tyX5 tyX5_ok nmX5 hown hK hP hD hS 1 rfl rfl 7 (by decide) (hts _ (ow_m (k := 1) rfl)) (fun _ h9 => h9) rfl (by decide +kernel) rfl rfl (Nat.le_of_ble_eq_true rfl) dX5_startAs_5 (fun H locs hP hD hS => ?_)
  have hP : va_P (dC, dI) vwCl [(q3796, .inr (1, [.ref (u3834 0), .ref (u3834 1), .ref (u3834 2), .ref (u3834 6), .int 0, .int 0, .int 0, .int 0, .int 2, .int 0, .int 0])), (u4000 0, .inr (5, [.ref (u4000 1), .ref (u4000 2), .ref (u4000 3), .ref (u4000 4), .ref (u4000 5), .ref (u4000 6), .ref (u4000 7), .int 0, .int (-1), .int 0, .int 0, .int 0, .int 0])), (u4000 2, .inl (cyI, 8, .inl (fun _ => 0))), (u4000 3, .inl (cyI, 8, .inl (fun _ => 0)))] H := hP
  have hD : va_D A [(q3796, .inr (1, [.ref (u3834 0), .ref (u3834 1), .ref (u3834 2), .ref (u3834 6), .int 0, .int 0, .int 0, .int 0, .int 2, .int 0, .int 0])), (u4000 0, .inr (5, [.ref (u4000 1), .ref (u4000 2), .ref (u4000 3), .ref (u4000 4), .ref (u4000 5), .ref (u4000 6), .ref (u4000 7), .int 0, .int (-1), .int 0, .int 0, .int 0, .int 0])), (u4000 2, .inl (cyI, 8, .inl (fun _ => 0))), (u4000 3, .inl (cyI, 8, .inl (fun _ => 0)))] := hD
  refine lv_iconst (v := 0) hx hb dX5_startAs_8 (by decide) ?_
  refine lv_istore_n (lv' := [(2, .int 0), (0, .ref (u4000 0)), (1, .ref q3796)]) hx hb dX5_startAs_9 rfl hl (by decide) rfl (fun ls hl => ?_)
  refine lv_iload_n hx hb dX5_startAs_10 rfl (lv_at hl 0 rfl) ?_
  refine lv_aload_n hx hb dX5_startAs_11 rfl (lv_at hl 1 rfl) ?_
  refine va_get (D := (dC, dI)) (ci := 5) (v := .int 0) (C := RX5) (T := TX5) (N := 13) hx hb hts hi5 hown hK hP 1 rfl rfl 7 (by decide) (hts _ (ow_m (k := 1) rfl)) (fun _ h9 => h9) rfl dX5_startAs_12 ?_
  refine lv_icmp_ge (tgt := 36) hx hb dX5_startAs_15 (by decide) (fun _ => ?_) (fun c4011 => absurd (by decide) c4011)
  refine lv_iconst (v := 0) hx hb dX5_startAs_36 (by decide) ?_
  refine lv_istore_n (lv' := [(2, .int 0), (0, .ref (u4000 0)), (1, .ref q3796)]) hx hb dX5_startAs_37 rfl hl (by decide) rfl (fun ls hl => ?_)
  refine lv_iload_n hx hb dX5_startAs_38 rfl (lv_at hl 0 rfl) ?_
  refine lv_bipush (v := 8) hx hb dX5_startAs_39 (by decide) ?_
  refine lv_icmp_ge (tgt := 64) hx hb dX5_startAs_41 (by decide) (fun c4012 => absurd c4012 (by decide)) (fun _ => ?_)
  refine lv_aload_n hx hb dX5_startAs_44 rfl (lv_at hl 1 rfl) ?_
  refine va_get (D := (dC, dI)) (ci := 5) (v := .ref (u4000 2)) (C := RX5) (T := TX5) (N := 13) hx hb hts hi5 hown hK hP 1 rfl rfl 1 (by decide) (hts _ (ow_m (k := 2) rfl)) (fun _ h9 => h9) rfl dX5_startAs_45 ?_
  refine lv_iload_n hx hb dX5_startAs_48 rfl (lv_at hl 0 rfl) ?_
  refine lv_iconst (v := 0) hx hb dX5_startAs_49 (by decide) ?_
  refine va_iast hx hb hK hP hD hS 2 1 rfl rfl (vp_i (a := 0) (by decide) (by decide) (by decide)) dX5_startAs_50 (fun H locs hP hD hS => ?_)
  have hP : va_P (dC, dI) vwCl [(q3796, .inr (1, [.ref (u3834 0), .ref (u3834 1), .ref (u3834 2), .ref (u3834 6), .int 0, .int 0, .int 0, .int 0, .int 2, .int 0, .int 0])), (u4000 0, .inr (5, [.ref (u4000 1), .ref (u4000 2), .ref (u4000 3), .ref (u4000 4), .ref (u4000 5), .ref (u4000 6), .ref (u4000 7), .int 0, .int (-1), .int 0, .int 0, .int 0, .int 0])), (u4000 2, .inl (cyI, 8, .inl (upd (fun _ => 0) 0 0))), (u4000 3, .inl (cyI, 8, .inl (fun _ => 0)))] H := hP
  have hD : va_D A [(q3796, .inr (1, [.ref (u3834 0), .ref (u3834 1), .ref (u3834 2), .ref (u3834 6), .int 0, .int 0, .int 0, .int 0, .int 2, .int 0, .int 0])), (u4000 0, .inr (5, [.ref (u4000 1), .ref (u4000 2), .ref (u4000 3), .ref (u4000 4), .ref (u4000 5), .ref (u4000 6), .ref (u4000 7), .int 0, .int (-1), .int 0, .int 0, .int 0, .int 0])), (u4000 2, .inl (cyI, 8, .inl (upd (fun _ => 0) 0 0))), (u4000 3, .inl (cyI, 8, .inl (fun _ => 0)))] := hD
  rw [upd_z] at hP hD
  refine lv_aload_n hx hb dX5_startAs_51 rfl (lv_at hl 1 rfl) ?_
  refine va_get (D := (dC, dI)) (ci := 5) (v := .ref (u4000 3)) (C := RX5) (T := TX5) (N := 13) hx hb hts hi5 hown hK hP 1 rfl rfl 2 (by decide) (hts _ (ow_m (k := 3) rfl)) (fun _ h9 => h9) rfl dX5_startAs_52 ?_
  refine lv_iload_n hx hb dX5_startAs_55 rfl (lv_at hl 0 rfl) ?_
  refine lv_iconst (v := 0) hx hb dX5_startAs_56 (by decide) ?_
  refine va_iast hx hb hK hP hD hS 3 1 rfl rfl (vp_i (a := 0) (by decide) (by decide) (by decide)) dX5_startAs_57 (fun H locs hP hD hS => ?_)
  have hP : va_P (dC, dI) vwCl [(q3796, .inr (1, [.ref (u3834 0), .ref (u3834 1), .ref (u3834 2), .ref (u3834 6), .int 0, .int 0, .int 0, .int 0, .int 2, .int 0, .int 0])), (u4000 0, .inr (5, [.ref (u4000 1), .ref (u4000 2), .ref (u4000 3), .ref (u4000 4), .ref (u4000 5), .ref (u4000 6), .ref (u4000 7), .int 0, .int (-1), .int 0, .int 0, .int 0, .int 0])), (u4000 2, .inl (cyI, 8, .inl (fun _ => 0))), (u4000 3, .inl (cyI, 8, .inl (upd (fun _ => 0) 0 0)))] H := hP
  have hD : va_D A [(q3796, .inr (1, [.ref (u3834 0), .ref (u3834 1), .ref (u3834 2), .ref (u3834 6), .int 0, .int 0, .int 0, .int 0, .int 2, .int 0, .int 0])), (u4000 0, .inr (5, [.ref (u4000 1), .ref (u4000 2), .ref (u4000 3), .ref (u4000 4), .ref (u4000 5), .ref (u4000 6), .ref (u4000 7), .int 0, .int (-1), .int 0, .int 0, .int 0, .int 0])), (u4000 2, .inl (cyI, 8, .inl (fun _ => 0))), (u4000 3, .inl (cyI, 8, .inl (upd (fun _ => 0) 0 0)))] := hD
  rw [upd_z] at hP hD
  refine lv_iinc (v := 1) (lv' := [(2, .int 1), (0, .ref (u4000 0)), (1, .ref q3796)]) hx hb dX5_startAs_58 hl (k := 0) rfl (by decide) (by decide) rfl (fun ls hl => ?_)
  refine lv_goto (tgt := 38) hx hb dX5_startAs_61 (by decide) ?_
  refine lv_iload_n hx hb dX5_startAs_38 rfl (lv_at hl 0 rfl) ?_
  refine lv_bipush (v := 8) hx hb dX5_startAs_39 (by decide) ?_
  refine lv_icmp_ge (tgt := 64) hx hb dX5_startAs_41 (by decide) (fun c4013 => absurd c4013 (by decide)) (fun _ => ?_)
  refine lv_aload_n hx hb dX5_startAs_44 rfl (lv_at hl 1 rfl) ?_
  refine va_get (D := (dC, dI)) (ci := 5) (v := .ref (u4000 2)) (C := RX5) (T := TX5) (N := 13) hx hb hts hi5 hown hK hP 1 rfl rfl 1 (by decide) (hts _ (ow_m (k := 2) rfl)) (fun _ h9 => h9) rfl dX5_startAs_45 ?_
  refine lv_iload_n hx hb dX5_startAs_48 rfl (lv_at hl 0 rfl) ?_
  refine lv_iconst (v := 0) hx hb dX5_startAs_49 (by decide) ?_
  refine va_iast hx hb hK hP hD hS 2 1 rfl rfl (vp_i (a := 1) (by decide) (by decide) (by decide)) dX5_startAs_50 (fun H locs hP hD hS => ?_)
  have hP : va_P (dC, dI) vwCl [(q3796, .inr (1, [.ref (u3834 0), .ref (u3834 1), .ref (u3834 2), .ref (u3834 6), .int 0, .int 0, .int 0, .int 0, .int 2, .int 0, .int 0])), (u4000 0, .inr (5, [.ref (u4000 1), .ref (u4000 2), .ref (u4000 3), .ref (u4000 4), .ref (u4000 5), .ref (u4000 6), .ref (u4000 7), .int 0, .int (-1), .int 0, .int 0, .int 0, .int 0])), (u4000 2, .inl (cyI, 8, .inl (upd (fun _ => 0) 1 0))), (u4000 3, .inl (cyI, 8, .inl (fun _ => 0)))] H := hP
  have hD : va_D A [(q3796, .inr (1, [.ref (u3834 0), .ref (u3834 1), .ref (u3834 2), .ref (u3834 6), .int 0, .int 0, .int 0, .int 0, .int 2, .int 0, .int 0])), (u4000 0, .inr (5, [.ref (u4000 1), .ref (u4000 2), .ref (u4000 3), .ref (u4000 4), .ref (u4000 5), .ref (u4000 6), .ref (u4000 7), .int 0, .int (-1), .int 0, .int 0, .int 0, .int 0])), (u4000 2, .inl (cyI, 8, .inl (upd (fun _ => 0) 1 0))), (u4000 3, .inl (cyI, 8, .inl (fun _ => 0)))] := hD
  rw [upd_z] at hP hD
  refine lv_aload_n hx hb dX5_startAs_51 rfl (lv_at hl 1 rfl) ?_
  refine va_get (D := (dC, dI)) (ci := 5) (v := .ref (u4000 3)) (C := RX5) (T := TX5) (N := 13) hx hb hts hi5 hown hK hP 1 rfl rfl 2 (by decide) (hts _ (ow_m (k := 3) rfl)) (fun _ h9 => h9) rfl dX5_startAs_52 ?_
  refine lv_iload_n hx hb dX5_startAs_55 rfl (lv_at hl 0 rfl) ?_
  refine lv_iconst (v := 0) hx hb dX5_startAs_56 (by decide) ?_
  refine va_iast hx hb hK hP hD hS 3 1 rfl rfl (vp_i (a := 1) (by decide) (by decide) (by decide)) dX5_startAs_57 (fun H locs hP hD hS => ?_)
  have hP : va_P (dC, dI) vwCl [(q3796, .inr (1, [.ref (u3834 0), .ref (u3834 1), .ref (u3834 2), .ref (u3834 6), .int 0, .int 0, .int 0, .int 0, .int 2, .int 0, .int 0])), (u4000 0, .inr (5, [.ref (u4000 1), .ref (u4000 2), .ref (u4000 3), .ref (u4000 4), .ref (u4000 5), .ref (u4000 6), .ref (u4000 7), .int 0, .int (-1), .int 0, .int 0, .int 0, .int 0])), (u4000 2, .inl (cyI, 8, .inl (fun _ => 0))), (u4000 3, .inl (cyI, 8, .inl (upd (fun _ => 0) 1 0)))] H := hP
  have hD : va_D A [(q3796, .inr (1, [.ref (u3834 0), .ref (u3834 1), .ref (u3834 2), .ref (u3834 6), .int 0, .int 0, .int 0, .int 0, .int 2, .int 0, .int 0])), (u4000 0, .inr (5, [.ref (u4000 1), .ref (u4000 2), .ref (u4000 3), .ref (u4000 4), .ref (u4000 5), .ref (u4000 6), .ref (u4000 7), .int 0, .int (-1), .int 0, .int 0, .int 0, .int 0])), (u4000 2, .inl (cyI, 8, .inl (fun _ => 0))), (u4000 3, .inl (cyI, 8, .inl (upd (fun _ => 0) 1 0)))] := hD
  rw [upd_z] at hP hD
  refine lv_iinc (v := 2) (lv' := [(2, .int 2), (0, .ref (u4000 0)), (1, .ref q3796)]) hx hb dX5_startAs_58 hl (k := 0) rfl (by decide) (by decide) rfl (fun ls hl => ?_)
  refine lv_goto (tgt := 38) hx hb dX5_startAs_61 (by decide) ?_
  refine lv_iload_n hx hb dX5_startAs_38 rfl (lv_at hl 0 rfl) ?_
  refine lv_bipush (v := 8) hx hb dX5_startAs_39 (by decide) ?_
  refine lv_icmp_ge (tgt := 64) hx hb dX5_startAs_41 (by decide) (fun c4014 => absurd c4014 (by decide)) (fun _ => ?_)
  refine lv_aload_n hx hb dX5_startAs_44 rfl (lv_at hl 1 rfl) ?_
  refine va_get (D := (dC, dI)) (ci := 5) (v := .ref (u4000 2)) (C := RX5) (T := TX5) (N := 13) hx hb hts hi5 hown hK hP 1 rfl rfl 1 (by decide) (hts _ (ow_m (k := 2) rfl)) (fun _ h9 => h9) rfl dX5_startAs_45 ?_
  refine lv_iload_n hx hb dX5_startAs_48 rfl (lv_at hl 0 rfl) ?_
  refine lv_iconst (v := 0) hx hb dX5_startAs_49 (by decide) ?_
  refine va_iast hx hb hK hP hD hS 2 1 rfl rfl (vp_i (a := 2) (by decide) (by decide) (by decide)) dX5_startAs_50 (fun H locs hP hD hS => ?_)
  have hP : va_P (dC, dI) vwCl [(q3796, .inr (1, [.ref (u3834 0), .ref (u3834 1), .ref (u3834 2), .ref (u3834 6), .int 0, .int 0, .int 0, .int 0, .int 2, .int 0, .int 0])), (u4000 0, .inr (5, [.ref (u4000 1), .ref (u4000 2), .ref (u4000 3), .ref (u4000 4), .ref (u4000 5), .ref (u4000 6), .ref (u4000 7), .int 0, .int (-1), .int 0, .int 0, .int 0, .int 0])), (u4000 2, .inl (cyI, 8, .inl (upd (fun _ => 0) 2 0))), (u4000 3, .inl (cyI, 8, .inl (fun _ => 0)))] H := hP
  have hD : va_D A [(q3796, .inr (1, [.ref (u3834 0), .ref (u3834 1), .ref (u3834 2), .ref (u3834 6), .int 0, .int 0, .int 0, .int 0, .int 2, .int 0, .int 0])), (u4000 0, .inr (5, [.ref (u4000 1), .ref (u4000 2), .ref (u4000 3), .ref (u4000 4), .ref (u4000 5), .ref (u4000 6), .ref (u4000 7), .int 0, .int (-1), .int 0, .int 0, .int 0, .int 0])), (u4000 2, .inl (cyI, 8, .inl (upd (fun _ => 0) 2 0))), (u4000 3, .inl (cyI, 8, .inl (fun _ => 0)))] := hD
  rw [upd_z] at hP hD
  refine lv_aload_n hx hb dX5_startAs_51 rfl (lv_at hl 1 rfl) ?_
  refine va_get (D := (dC, dI)) (ci := 5) (v := .ref (u4000 3)) (C := RX5) (T := TX5) (N := 13) hx hb hts hi5 hown hK hP 1 rfl rfl 2 (by decide) (hts _ (ow_m (k := 3) rfl)) (fun _ h9 => h9) rfl dX5_startAs_52 ?_
  refine lv_iload_n hx hb dX5_startAs_55 rfl (lv_at hl 0 rfl) ?_
  refine lv_iconst (v := 0) hx hb dX5_startAs_56 (by decide) ?_
  refine va_iast hx hb hK hP hD hS 3 1 rfl rfl (vp_i (a := 2) (by decide) (by decide) (by decide)) dX5_startAs_57 (fun H locs hP hD hS => ?_)
  have hP : va_P (dC, dI) vwCl [(q3796, .inr (1, [.ref (u3834 0), .ref (u3834 1), .ref (u3834 2), .ref (u3834 6), .int 0, .int 0, .int 0, .int 0, .int 2, .int 0, .int 0])), (u4000 0, .inr (5, [.ref (u4000 1), .ref (u4000 2), .ref (u4000 3), .ref (u4000 4), .ref (u4000 5), .ref (u4000 6), .ref (u4000 7), .int 0, .int (-1), .int 0, .int 0, .int 0, .int 0])), (u4000 2, .inl (cyI, 8, .inl (fun _ => 0))), (u4000 3, .inl (cyI, 8, .inl (upd (fun _ => 0) 2 0)))] H := hP
  have hD : va_D A [(q3796, .inr (1, [.ref (u3834 0), .ref (u3834 1), .ref (u3834 2), .ref (u3834 6), .int 0, .int 0, .int 0, .int 0, .int 2, .int 0, .int 0])), (u4000 0, .inr (5, [.ref (u4000 1), .ref (u4000 2), .ref (u4000 3), .ref (u4000 4), .ref (u4000 5), .ref (u4000 6), .ref (u4000 7), .int 0, .int (-1), .int 0, .int 0, .int 0, .int 0])), (u4000 2, .inl (cyI, 8, .inl (fun _ => 0))), (u4000 3, .inl (cyI, 8, .inl (upd (fun _ => 0) 2 0)))] := hD
  rw [upd_z] at hP hD
  refine lv_iinc (v := 3) (lv' := [(2, .int 3), (0, .ref (u4000 0)), (1, .ref q3796)]) hx hb dX5_startAs_58 hl (k := 0) rfl (by decide) (by decide) rfl (fun ls hl => ?_)
  refine lv_goto (tgt := 38) hx hb dX5_startAs_61 (by decide) ?_
  refine lv_iload_n hx hb dX5_startAs_38 rfl (lv_at hl 0 rfl) ?_
  refine lv_bipush (v := 8) hx hb dX5_startAs_39 (by decide) ?_
  refine lv_icmp_ge (tgt := 64) hx hb dX5_startAs_41 (by decide) (fun c4015 => absurd c4015 (by decide)) (fun _ => ?_)
  refine lv_aload_n hx hb dX5_startAs_44 rfl (lv_at hl 1 rfl) ?_
  refine va_get (D := (dC, dI)) (ci := 5) (v := .ref (u4000 2)) (C := RX5) (T := TX5) (N := 13) hx hb hts hi5 hown hK hP 1 rfl rfl 1 (by decide) (hts _ (ow_m (k := 2) rfl)) (fun _ h9 => h9) rfl dX5_startAs_45 ?_
  refine lv_iload_n hx hb dX5_startAs_48 rfl (lv_at hl 0 rfl) ?_
  refine lv_iconst (v := 0) hx hb dX5_startAs_49 (by decide) ?_
  refine va_iast hx hb hK hP hD hS 2 1 rfl rfl (vp_i (a := 3) (by decide) (by decide) (by decide)) dX5_startAs_50 (fun H locs hP hD hS => ?_)
  have hP : va_P (dC, dI) vwCl [(q3796, .inr (1, [.ref (u3834 0), .ref (u3834 1), .ref (u3834 2), .ref (u3834 6), .int 0, .int 0, .int 0, .int 0, .int 2, .int 0, .int 0])), (u4000 0, .inr (5, [.ref (u4000 1), .ref (u4000 2), .ref (u4000 3), .ref (u4000 4), .ref (u4000 5), .ref (u4000 6), .ref (u4000 7), .int 0, .int (-1), .int 0, .int 0, .int 0, .int 0])), (u4000 2, .inl (cyI, 8, .inl (upd (fun _ => 0) 3 0))), (u4000 3, .inl (cyI, 8, .inl (fun _ => 0)))] H := hP
  have hD : va_D A [(q3796, .inr (1, [.ref (u3834 0), .ref (u3834 1), .ref (u3834 2), .ref (u3834 6), .int 0, .int 0, .int 0, .int 0, .int 2, .int 0, .int 0])), (u4000 0, .inr (5, [.ref (u4000 1), .ref (u4000 2), .ref (u4000 3), .ref (u4000 4), .ref (u4000 5), .ref (u4000 6), .ref (u4000 7), .int 0, .int (-1), .int 0, .int 0, .int 0, .int 0])), (u4000 2, .inl (cyI, 8, .inl (upd (fun _ => 0) 3 0))), (u4000 3, .inl (cyI, 8, .inl (fun _ => 0)))] := hD
  rw [upd_z] at hP hD
  refine lv_aload_n hx hb dX5_startAs_51 rfl (lv_at hl 1 rfl) ?_
  refine va_get (D := (dC, dI)) (ci := 5) (v := .ref (u4000 3)) (C := RX5) (T := TX5) (N := 13) hx hb hts hi5 hown hK hP 1 rfl rfl 2 (by decide) (hts _ (ow_m (k := 3) rfl)) (fun _ h9 => h9) rfl dX5_startAs_52 ?_
  refine lv_iload_n hx hb dX5_startAs_55 rfl (lv_at hl 0 rfl) ?_
  refine lv_iconst (v := 0) hx hb dX5_startAs_56 (by decide) ?_
  refine va_iast hx hb hK hP hD hS 3 1 rfl rfl (vp_i (a := 3) (by decide) (by decide) (by decide)) dX5_startAs_57 (fun H locs hP hD hS => ?_)
  have hP : va_P (dC, dI) vwCl [(q3796, .inr (1, [.ref (u3834 0), .ref (u3834 1), .ref (u3834 2), .ref (u3834 6), .int 0, .int 0, .int 0, .int 0, .int 2, .int 0, .int 0])), (u4000 0, .inr (5, [.ref (u4000 1), .ref (u4000 2), .ref (u4000 3), .ref (u4000 4), .ref (u4000 5), .ref (u4000 6), .ref (u4000 7), .int 0, .int (-1), .int 0, .int 0, .int 0, .int 0])), (u4000 2, .inl (cyI, 8, .inl (fun _ => 0))), (u4000 3, .inl (cyI, 8, .inl (upd (fun _ => 0) 3 0)))] H := hP
  have hD : va_D A [(q3796, .inr (1, [.ref (u3834 0), .ref (u3834 1), .ref (u3834 2), .ref (u3834 6), .int 0, .int 0, .int 0, .int 0, .int 2, .int 0, .int 0])), (u4000 0, .inr (5, [.ref (u4000 1), .ref (u4000 2), .ref (u4000 3), .ref (u4000 4), .ref (u4000 5), .ref (u4000 6), .ref (u4000 7), .int 0, .int (-1), .int 0, .int 0, .int 0, .int 0])), (u4000 2, .inl (cyI, 8, .inl (fun _ => 0))), (u4000 3, .inl (cyI, 8, .inl (upd (fun _ => 0) 3 0)))] := hD
  rw [upd_z] at hP hD
  refine lv_iinc (v := 4) (lv' := [(2, .int 4), (0, .ref (u4000 0)), (1, .ref q3796)]) hx hb dX5_startAs_58 hl (k := 0) rfl (by decide) (by decide) rfl (fun ls hl => ?_)
  refine lv_goto (tgt := 38) hx hb dX5_startAs_61 (by decide) ?_
  refine lv_iload_n hx hb dX5_startAs_38 rfl (lv_at hl 0 rfl) ?_
  refine lv_bipush (v := 8) hx hb dX5_startAs_39 (by decide) ?_
  refine lv_icmp_ge (tgt := 64) hx hb dX5_startAs_41 (by decide) (fun c4016 => absurd c4016 (by decide)) (fun _ => ?_)
  refine lv_aload_n hx hb dX5_startAs_44 rfl (lv_at hl 1 rfl) ?_
  refine va_get (D := (dC, dI)) (ci := 5) (v := .ref (u4000 2)) (C := RX5) (T := TX5) (N := 13) hx hb hts hi5 hown hK hP 1 rfl rfl 1 (by decide) (hts _ (ow_m (k := 2) rfl)) (fun _ h9 => h9) rfl dX5_startAs_45 ?_
  refine lv_iload_n hx hb dX5_startAs_48 rfl (lv_at hl 0 rfl) ?_
  refine lv_iconst (v := 0) hx hb dX5_startAs_49 (by decide) ?_
  refine va_iast hx hb hK hP hD hS 2 1 rfl rfl (vp_i (a := 4) (by decide) (by decide) (by decide)) dX5_startAs_50 (fun H locs hP hD hS => ?_)
  have hP : va_P (dC, dI) vwCl [(q3796, .inr (1, [.ref (u3834 0), .ref (u3834 1), .ref (u3834 2), .ref (u3834 6), .int 0, .int 0, .int 0, .int 0, .int 2, .int 0, .int 0])), (u4000 0, .inr (5, [.ref (u4000 1), .ref (u4000 2), .ref (u4000 3), .ref (u4000 4), .ref (u4000 5), .ref (u4000 6), .ref (u4000 7), .int 0, .int (-1), .int 0, .int 0, .int 0, .int 0])), (u4000 2, .inl (cyI, 8, .inl (upd (fun _ => 0) 4 0))), (u4000 3, .inl (cyI, 8, .inl (fun _ => 0)))] H := hP
  have hD : va_D A [(q3796, .inr (1, [.ref (u3834 0), .ref (u3834 1), .ref (u3834 2), .ref (u3834 6), .int 0, .int 0, .int 0, .int 0, .int 2, .int 0, .int 0])), (u4000 0, .inr (5, [.ref (u4000 1), .ref (u4000 2), .ref (u4000 3), .ref (u4000 4), .ref (u4000 5), .ref (u4000 6), .ref (u4000 7), .int 0, .int (-1), .int 0, .int 0, .int 0, .int 0])), (u4000 2, .inl (cyI, 8, .inl (upd (fun _ => 0) 4 0))), (u4000 3, .inl (cyI, 8, .inl (fun _ => 0)))] := hD
  rw [upd_z] at hP hD
  refine lv_aload_n hx hb dX5_startAs_51 rfl (lv_at hl 1 rfl) ?_
  refine va_get (D := (dC, dI)) (ci := 5) (v := .ref (u4000 3)) (C := RX5) (T := TX5) (N := 13) hx hb hts hi5 hown hK hP 1 rfl rfl 2 (by decide) (hts _ (ow_m (k := 3) rfl)) (fun _ h9 => h9) rfl dX5_startAs_52 ?_
  refine lv_iload_n hx hb dX5_startAs_55 rfl (lv_at hl 0 rfl) ?_
  refine lv_iconst (v := 0) hx hb dX5_startAs_56 (by decide) ?_
  refine va_iast hx hb hK hP hD hS 3 1 rfl rfl (vp_i (a := 4) (by decide) (by decide) (by decide)) dX5_startAs_57 (fun H locs hP hD hS => ?_)
  have hP : va_P (dC, dI) vwCl [(q3796, .inr (1, [.ref (u3834 0), .ref (u3834 1), .ref (u3834 2), .ref (u3834 6), .int 0, .int 0, .int 0, .int 0, .int 2, .int 0, .int 0])), (u4000 0, .inr (5, [.ref (u4000 1), .ref (u4000 2), .ref (u4000 3), .ref (u4000 4), .ref (u4000 5), .ref (u4000 6), .ref (u4000 7), .int 0, .int (-1), .int 0, .int 0, .int 0, .int 0])), (u4000 2, .inl (cyI, 8, .inl (fun _ => 0))), (u4000 3, .inl (cyI, 8, .inl (upd (fun _ => 0) 4 0)))] H := hP
  have hD : va_D A [(q3796, .inr (1, [.ref (u3834 0), .ref (u3834 1), .ref (u3834 2), .ref (u3834 6), .int 0, .int 0, .int 0, .int 0, .int 2, .int 0, .int 0])), (u4000 0, .inr (5, [.ref (u4000 1), .ref (u4000 2), .ref (u4000 3), .ref (u4000 4), .ref (u4000 5), .ref (u4000 6), .ref (u4000 7), .int 0, .int (-1), .int 0, .int 0, .int 0, .int 0])), (u4000 2, .inl (cyI, 8, .inl (fun _ => 0))), (u4000 3, .inl (cyI, 8, .inl (upd (fun _ => 0) 4 0)))] := hD
  rw [upd_z] at hP hD
  refine lv_iinc (v := 5) (lv' := [(2, .int 5), (0, .ref (u4000 0)), (1, .ref q3796)]) hx hb dX5_startAs_58 hl (k := 0) rfl (by decide) (by decide) rfl (fun ls hl => ?_)
  refine lv_goto (tgt := 38) hx hb dX5_startAs_61 (by decide) ?_
  refine lv_iload_n hx hb dX5_startAs_38 rfl (lv_at hl 0 rfl) ?_
  refine lv_bipush (v := 8) hx hb dX5_startAs_39 (by decide) ?_
  refine lv_icmp_ge (tgt := 64) hx hb dX5_startAs_41 (by decide) (fun c4017 => absurd c4017 (by decide)) (fun _ => ?_)
  refine lv_aload_n hx hb dX5_startAs_44 rfl (lv_at hl 1 rfl) ?_
  refine va_get (D := (dC, dI)) (ci := 5) (v := .ref (u4000 2)) (C := RX5) (T := TX5) (N := 13) hx hb hts hi5 hown hK hP 1 rfl rfl 1 (by decide) (hts _ (ow_m (k := 2) rfl)) (fun _ h9 => h9) rfl dX5_startAs_45 ?_
  refine lv_iload_n hx hb dX5_startAs_48 rfl (lv_at hl 0 rfl) ?_
  refine lv_iconst (v := 0) hx hb dX5_startAs_49 (by decide) ?_
  refine va_iast hx hb hK hP hD hS 2 1 rfl rfl (vp_i (a := 5) (by decide) (by decide) (by decide)) dX5_startAs_50 (fun H locs hP hD hS => ?_)
  have hP : va_P (dC, dI) vwCl [(q3796, .inr (1, [.ref (u3834 0), .ref (u3834 1), .ref (u3834 2), .ref (u3834 6), .int 0, .int 0, .int 0, .int 0, .int 2, .int 0, .int 0])), (u4000 0, .inr (5, [.ref (u4000 1), .ref (u4000 2), .ref (u4000 3), .ref (u4000 4), .ref (u4000 5), .ref (u4000 6), .ref (u4000 7), .int 0, .int (-1), .int 0, .int 0, .int 0, .int 0])), (u4000 2, .inl (cyI, 8, .inl (upd (fun _ => 0) 5 0))), (u4000 3, .inl (cyI, 8, .inl (fun _ => 0)))] H := hP
  have hD : va_D A [(q3796, .inr (1, [.ref (u3834 0), .ref (u3834 1), .ref (u3834 2), .ref (u3834 6), .int 0, .int 0, .int 0, .int 0, .int 2, .int 0, .int 0])), (u4000 0, .inr (5, [.ref (u4000 1), .ref (u4000 2), .ref (u4000 3), .ref (u4000 4), .ref (u4000 5), .ref (u4000 6), .ref (u4000 7), .int 0, .int (-1), .int 0, .int 0, .int 0, .int 0])), (u4000 2, .inl (cyI, 8, .inl (upd (fun _ => 0) 5 0))), (u4000 3, .inl (cyI, 8, .inl (fun _ => 0)))] := hD
  rw [upd_z] at hP hD
  refine lv_aload_n hx hb dX5_startAs_51 rfl (lv_at hl 1 rfl) ?_
  refine va_get (D := (dC, dI)) (ci := 5) (v := .ref (u4000 3)) (C := RX5) (T := TX5) (N := 13) hx hb hts hi5 hown hK hP 1 rfl rfl 2 (by decide) (hts _ (ow_m (k := 3) rfl)) (fun _ h9 => h9) rfl dX5_startAs_52 ?_
  refine lv_iload_n hx hb dX5_startAs_55 rfl (lv_at hl 0 rfl) ?_
  refine lv_iconst (v := 0) hx hb dX5_startAs_56 (by decide) ?_
  refine va_iast hx hb hK hP hD hS 3 1 rfl rfl (vp_i (a := 5) (by decide) (by decide) (by decide)) dX5_startAs_57 (fun H locs hP hD hS => ?_)
  have hP : va_P (dC, dI) vwCl [(q3796, .inr (1, [.ref (u3834 0), .ref (u3834 1), .ref (u3834 2), .ref (u3834 6), .int 0, .int 0, .int 0, .int 0, .int 2, .int 0, .int 0])), (u4000 0, .inr (5, [.ref (u4000 1), .ref (u4000 2), .ref (u4000 3), .ref (u4000 4), .ref (u4000 5), .ref (u4000 6), .ref (u4000 7), .int 0, .int (-1), .int 0, .int 0, .int 0, .int 0])), (u4000 2, .inl (cyI, 8, .inl (fun _ => 0))), (u4000 3, .inl (cyI, 8, .inl (upd (fun _ => 0) 5 0)))] H := hP
  have hD : va_D A [(q3796, .inr (1, [.ref (u3834 0), .ref (u3834 1), .ref (u3834 2), .ref (u3834 6), .int 0, .int 0, .int 0, .int 0, .int 2, .int 0, .int 0])), (u4000 0, .inr (5, [.ref (u4000 1), .ref (u4000 2), .ref (u4000 3), .ref (u4000 4), .ref (u4000 5), .ref (u4000 6), .ref (u4000 7), .int 0, .int (-1), .int 0, .int 0, .int 0, .int 0])), (u4000 2, .inl (cyI, 8, .inl (fun _ => 0))), (u4000 3, .inl (cyI, 8, .inl (upd (fun _ => 0) 5 0)))] := hD
  rw [upd_z] at hP hD
  refine lv_iinc (v := 6) (lv' := [(2, .int 6), (0, .ref (u4000 0)), (1, .ref q3796)]) hx hb dX5_startAs_58 hl (k := 0) rfl (by decide) (by decide) rfl (fun ls hl => ?_)
  refine lv_goto (tgt := 38) hx hb dX5_startAs_61 (by decide) ?_
  refine lv_iload_n hx hb dX5_startAs_38 rfl (lv_at hl 0 rfl) ?_
  refine lv_bipush (v := 8) hx hb dX5_startAs_39 (by decide) ?_
  refine lv_icmp_ge (tgt := 64) hx hb dX5_startAs_41 (by decide) (fun c4018 => absurd c4018 (by decide)) (fun _ => ?_)
  refine lv_aload_n hx hb dX5_startAs_44 rfl (lv_at hl 1 rfl) ?_
  refine va_get (D := (dC, dI)) (ci := 5) (v := .ref (u4000 2)) (C := RX5) (T := TX5) (N := 13) hx hb hts hi5 hown hK hP 1 rfl rfl 1 (by decide) (hts _ (ow_m (k := 2) rfl)) (fun _ h9 => h9) rfl dX5_startAs_45 ?_
  refine lv_iload_n hx hb dX5_startAs_48 rfl (lv_at hl 0 rfl) ?_
  refine lv_iconst (v := 0) hx hb dX5_startAs_49 (by decide) ?_
  refine va_iast hx hb hK hP hD hS 2 1 rfl rfl (vp_i (a := 6) (by decide) (by decide) (by decide)) dX5_startAs_50 (fun H locs hP hD hS => ?_)
  have hP : va_P (dC, dI) vwCl [(q3796, .inr (1, [.ref (u3834 0), .ref (u3834 1), .ref (u3834 2), .ref (u3834 6), .int 0, .int 0, .int 0, .int 0, .int 2, .int 0, .int 0])), (u4000 0, .inr (5, [.ref (u4000 1), .ref (u4000 2), .ref (u4000 3), .ref (u4000 4), .ref (u4000 5), .ref (u4000 6), .ref (u4000 7), .int 0, .int (-1), .int 0, .int 0, .int 0, .int 0])), (u4000 2, .inl (cyI, 8, .inl (upd (fun _ => 0) 6 0))), (u4000 3, .inl (cyI, 8, .inl (fun _ => 0)))] H := hP
  have hD : va_D A [(q3796, .inr (1, [.ref (u3834 0), .ref (u3834 1), .ref (u3834 2), .ref (u3834 6), .int 0, .int 0, .int 0, .int 0, .int 2, .int 0, .int 0])), (u4000 0, .inr (5, [.ref (u4000 1), .ref (u4000 2), .ref (u4000 3), .ref (u4000 4), .ref (u4000 5), .ref (u4000 6), .ref (u4000 7), .int 0, .int (-1), .int 0, .int 0, .int 0, .int 0])), (u4000 2, .inl (cyI, 8, .inl (upd (fun _ => 0) 6 0))), (u4000 3, .inl (cyI, 8, .inl (fun _ => 0)))] := hD
  rw [upd_z] at hP hD
  refine lv_aload_n hx hb dX5_startAs_51 rfl (lv_at hl 1 rfl) ?_
  refine va_get (D := (dC, dI)) (ci := 5) (v := .ref (u4000 3)) (C := RX5) (T := TX5) (N := 13) hx hb hts hi5 hown hK hP 1 rfl rfl 2 (by decide) (hts _ (ow_m (k := 3) rfl)) (fun _ h9 => h9) rfl dX5_startAs_52 ?_
  refine lv_iload_n hx hb dX5_startAs_55 rfl (lv_at hl 0 rfl) ?_
  refine lv_iconst (v := 0) hx hb dX5_startAs_56 (by decide) ?_
  refine va_iast hx hb hK hP hD hS 3 1 rfl rfl (vp_i (a := 6) (by decide) (by decide) (by decide)) dX5_startAs_57 (fun H locs hP hD hS => ?_)
  have hP : va_P (dC, dI) vwCl [(q3796, .inr (1, [.ref (u3834 0), .ref (u3834 1), .ref (u3834 2), .ref (u3834 6), .int 0, .int 0, .int 0, .int 0, .int 2, .int 0, .int 0])), (u4000 0, .inr (5, [.ref (u4000 1), .ref (u4000 2), .ref (u4000 3), .ref (u4000 4), .ref (u4000 5), .ref (u4000 6), .ref (u4000 7), .int 0, .int (-1), .int 0, .int 0, .int 0, .int 0])), (u4000 2, .inl (cyI, 8, .inl (fun _ => 0))), (u4000 3, .inl (cyI, 8, .inl (upd (fun _ => 0) 6 0)))] H := hP
  have hD : va_D A [(q3796, .inr (1, [.ref (u3834 0), .ref (u3834 1), .ref (u3834 2), .ref (u3834 6), .int 0, .int 0, .int 0, .int 0, .int 2, .int 0, .int 0])), (u4000 0, .inr (5, [.ref (u4000 1), .ref (u4000 2), .ref (u4000 3), .ref (u4000 4), .ref (u4000 5), .ref (u4000 6), .ref (u4000 7), .int 0, .int (-1), .int 0, .int 0, .int 0, .int 0])), (u4000 2, .inl (cyI, 8, .inl (fun _ => 0))), (u4000 3, .inl (cyI, 8, .inl (upd (fun _ => 0) 6 0)))] := hD
  rw [upd_z] at hP hD
  refine lv_iinc (v := 7) (lv' := [(2, .int 7), (0, .ref (u4000 0)), (1, .ref q3796)]) hx hb dX5_startAs_58 hl (k := 0) rfl (by decide) (by decide) rfl (fun ls hl => ?_)
  refine lv_goto (tgt := 38) hx hb dX5_startAs_61 (by decide) ?_
  refine lv_iload_n hx hb dX5_startAs_38 rfl (lv_at hl 0 rfl) ?_
  refine lv_bipush (v := 8) hx hb dX5_startAs_39 (by decide) ?_
  refine lv_icmp_ge (tgt := 64) hx hb dX5_startAs_41 (by decide) (fun c4019 => absurd c4019 (by decide)) (fun _ => ?_)
  refine lv_aload_n hx hb dX5_startAs_44 rfl (lv_at hl 1 rfl) ?_
  refine va_get (D := (dC, dI)) (ci := 5) (v := .ref (u4000 2)) (C := RX5) (T := TX5) (N := 13) hx hb hts hi5 hown hK hP 1 rfl rfl 1 (by decide) (hts _ (ow_m (k := 2) rfl)) (fun _ h9 => h9) rfl dX5_startAs_45 ?_
  refine lv_iload_n hx hb dX5_startAs_48 rfl (lv_at hl 0 rfl) ?_
  refine lv_iconst (v := 0) hx hb dX5_startAs_49 (by decide) ?_
  refine va_iast hx hb hK hP hD hS 2 1 rfl rfl (vp_i (a := 7) (by decide) (by decide) (by decide)) dX5_startAs_50 (fun H locs hP hD hS => ?_)
  have hP : va_P (dC, dI) vwCl [(q3796, .inr (1, [.ref (u3834 0), .ref (u3834 1), .ref (u3834 2), .ref (u3834 6), .int 0, .int 0, .int 0, .int 0, .int 2, .int 0, .int 0])), (u4000 0, .inr (5, [.ref (u4000 1), .ref (u4000 2), .ref (u4000 3), .ref (u4000 4), .ref (u4000 5), .ref (u4000 6), .ref (u4000 7), .int 0, .int (-1), .int 0, .int 0, .int 0, .int 0])), (u4000 2, .inl (cyI, 8, .inl (upd (fun _ => 0) 7 0))), (u4000 3, .inl (cyI, 8, .inl (fun _ => 0)))] H := hP
  have hD : va_D A [(q3796, .inr (1, [.ref (u3834 0), .ref (u3834 1), .ref (u3834 2), .ref (u3834 6), .int 0, .int 0, .int 0, .int 0, .int 2, .int 0, .int 0])), (u4000 0, .inr (5, [.ref (u4000 1), .ref (u4000 2), .ref (u4000 3), .ref (u4000 4), .ref (u4000 5), .ref (u4000 6), .ref (u4000 7), .int 0, .int (-1), .int 0, .int 0, .int 0, .int 0])), (u4000 2, .inl (cyI, 8, .inl (upd (fun _ => 0) 7 0))), (u4000 3, .inl (cyI, 8, .inl (fun _ => 0)))] := hD
  rw [upd_z] at hP hD
  refine lv_aload_n hx hb dX5_startAs_51 rfl (lv_at hl 1 rfl) ?_
  refine va_get (D := (dC, dI)) (ci := 5) (v := .ref (u4000 3)) (C := RX5) (T := TX5) (N := 13) hx hb hts hi5 hown hK hP 1 rfl rfl 2 (by decide) (hts _ (ow_m (k := 3) rfl)) (fun _ h9 => h9) rfl dX5_startAs_52 ?_
  refine lv_iload_n hx hb dX5_startAs_55 rfl (lv_at hl 0 rfl) ?_
  refine lv_iconst (v := 0) hx hb dX5_startAs_56 (by decide) ?_
  refine va_iast hx hb hK hP hD hS 3 1 rfl rfl (vp_i (a := 7) (by decide) (by decide) (by decide)) dX5_startAs_57 (fun H locs hP hD hS => ?_)
  have hP : va_P (dC, dI) vwCl [(q3796, .inr (1, [.ref (u3834 0), .ref (u3834 1), .ref (u3834 2), .ref (u3834 6), .int 0, .int 0, .int 0, .int 0, .int 2, .int 0, .int 0])), (u4000 0, .inr (5, [.ref (u4000 1), .ref (u4000 2), .ref (u4000 3), .ref (u4000 4), .ref (u4000 5), .ref (u4000 6), .ref (u4000 7), .int 0, .int (-1), .int 0, .int 0, .int 0, .int 0])), (u4000 2, .inl (cyI, 8, .inl (fun _ => 0))), (u4000 3, .inl (cyI, 8, .inl (upd (fun _ => 0) 7 0)))] H := hP
  have hD : va_D A [(q3796, .inr (1, [.ref (u3834 0), .ref (u3834 1), .ref (u3834 2), .ref (u3834 6), .int 0, .int 0, .int 0, .int 0, .int 2, .int 0, .int 0])), (u4000 0, .inr (5, [.ref (u4000 1), .ref (u4000 2), .ref (u4000 3), .ref (u4000 4), .ref (u4000 5), .ref (u4000 6), .ref (u4000 7), .int 0, .int (-1), .int 0, .int 0, .int 0, .int 0])), (u4000 2, .inl (cyI, 8, .inl (fun _ => 0))), (u4000 3, .inl (cyI, 8, .inl (upd (fun _ => 0) 7 0)))] := hD
  rw [upd_z] at hP hD
  refine lv_iinc (v := 8) (lv' := [(2, .int 8), (0, .ref (u4000 0)), (1, .ref q3796)]) hx hb dX5_startAs_58 hl (k := 0) rfl (by decide) (by decide) rfl (fun ls hl => ?_)
  refine lv_goto (tgt := 38) hx hb dX5_startAs_61 (by decide) ?_
  refine lv_iload_n hx hb dX5_startAs_38 rfl (lv_at hl 0 rfl) ?_
  refine lv_bipush (v := 8) hx hb dX5_startAs_39 (by decide) ?_
  refine lv_icmp_ge (tgt := 64) hx hb dX5_startAs_41 (by decide) (fun _ => ?_) (fun c4020 => absurd (by decide) c4020)
  refine lv_aload_n hx hb dX5_startAs_64 rfl (lv_at hl 1 rfl) ?_
  refine lv_iconst (v := (-1)) hx hb dX5_startAs_65 (by decide) ?_
  refine va_put (D := (dC, dI)) (ci := 5) (v := .int (-1)) (ty := .int) (C := RX5) (T := TX5) (N := 13) hx hb hts hi5 tyX5 tyX5_ok nmX5 hown hK hP hD hS 1 rfl rfl 8 (by decide) (hts _ (ow_m (k := 4) rfl)) (fun _ h9 => h9) rfl (by decide +kernel) rfl rfl (Nat.le_of_ble_eq_true rfl) dX5_startAs_66 (fun H locs hP hD hS => ?_)
  have hP : va_P (dC, dI) vwCl [(q3796, .inr (1, [.ref (u3834 0), .ref (u3834 1), .ref (u3834 2), .ref (u3834 6), .int 0, .int 0, .int 0, .int 0, .int 2, .int 0, .int 0])), (u4000 0, .inr (5, [.ref (u4000 1), .ref (u4000 2), .ref (u4000 3), .ref (u4000 4), .ref (u4000 5), .ref (u4000 6), .ref (u4000 7), .int 0, .int (-1), .int 0, .int 0, .int 0, .int 0])), (u4000 2, .inl (cyI, 8, .inl (fun _ => 0))), (u4000 3, .inl (cyI, 8, .inl (fun _ => 0)))] H := hP
  have hD : va_D A [(q3796, .inr (1, [.ref (u3834 0), .ref (u3834 1), .ref (u3834 2), .ref (u3834 6), .int 0, .int 0, .int 0, .int 0, .int 2, .int 0, .int 0])), (u4000 0, .inr (5, [.ref (u4000 1), .ref (u4000 2), .ref (u4000 3), .ref (u4000 4), .ref (u4000 5), .ref (u4000 6), .ref (u4000 7), .int 0, .int (-1), .int 0, .int 0, .int 0, .int 0])), (u4000 2, .inl (cyI, 8, .inl (fun _ => 0))), (u4000 3, .inl (cyI, 8, .inl (fun _ => 0)))] := hD
  refine lv_aload_n hx hb dX5_startAs_69 rfl (lv_at hl 1 rfl) ?_
  refine lv_iconst (v := 0) hx hb dX5_startAs_70 (by decide) ?_
  refine va_put (D := (dC, dI)) (ci := 5) (v := .int 0) (ty := .int) (C := RX5) (T := TX5) (N := 13) hx hb hts hi5 tyX5 tyX5_ok nmX5 hown hK hP hD hS 1 rfl rfl 9 (by decide) (hts _ (ow_m (k := 5) rfl)) (fun _ h9 => h9) rfl (by decide +kernel) rfl rfl (Nat.le_of_ble_eq_true rfl) dX5_startAs_71 (fun H locs hP hD hS => ?_)
  have hP : va_P (dC, dI) vwCl [(q3796, .inr (1, [.ref (u3834 0), .ref (u3834 1), .ref (u3834 2), .ref (u3834 6), .int 0, .int 0, .int 0, .int 0, .int 2, .int 0, .int 0])), (u4000 0, .inr (5, [.ref (u4000 1), .ref (u4000 2), .ref (u4000 3), .ref (u4000 4), .ref (u4000 5), .ref (u4000 6), .ref (u4000 7), .int 0, .int (-1), .int 0, .int 0, .int 0, .int 0])), (u4000 2, .inl (cyI, 8, .inl (fun _ => 0))), (u4000 3, .inl (cyI, 8, .inl (fun _ => 0)))] H := hP
  have hD : va_D A [(q3796, .inr (1, [.ref (u3834 0), .ref (u3834 1), .ref (u3834 2), .ref (u3834 6), .int 0, .int 0, .int 0, .int 0, .int 2, .int 0, .int 0])), (u4000 0, .inr (5, [.ref (u4000 1), .ref (u4000 2), .ref (u4000 3), .ref (u4000 4), .ref (u4000 5), .ref (u4000 6), .ref (u4000 7), .int 0, .int (-1), .int 0, .int 0, .int 0, .int 0])), (u4000 2, .inl (cyI, 8, .inl (fun _ => 0))), (u4000 3, .inl (cyI, 8, .inl (fun _ => 0)))] := hD
  refine lv_aload_n hx hb dX5_startAs_74 rfl (lv_at hl 1 rfl) ?_
  refine lv_iconst (v := 0) hx hb dX5_startAs_75 (by decide) ?_
  refine va_put (D := (dC, dI)) (ci := 5) (v := .int 0) (ty := .int) (C := RX5) (T := TX5) (N := 13) hx hb hts hi5 tyX5 tyX5_ok nmX5 hown hK hP hD hS 1 rfl rfl 10 (by decide) (hts _ (ow_m (k := 6) rfl)) (fun _ h9 => h9) rfl (by decide +kernel) rfl rfl (Nat.le_of_ble_eq_true rfl) dX5_startAs_76 (fun H locs hP hD hS => ?_)
  have hP : va_P (dC, dI) vwCl [(q3796, .inr (1, [.ref (u3834 0), .ref (u3834 1), .ref (u3834 2), .ref (u3834 6), .int 0, .int 0, .int 0, .int 0, .int 2, .int 0, .int 0])), (u4000 0, .inr (5, [.ref (u4000 1), .ref (u4000 2), .ref (u4000 3), .ref (u4000 4), .ref (u4000 5), .ref (u4000 6), .ref (u4000 7), .int 0, .int (-1), .int 0, .int 0, .int 0, .int 0])), (u4000 2, .inl (cyI, 8, .inl (fun _ => 0))), (u4000 3, .inl (cyI, 8, .inl (fun _ => 0)))] H := hP
  have hD : va_D A [(q3796, .inr (1, [.ref (u3834 0), .ref (u3834 1), .ref (u3834 2), .ref (u3834 6), .int 0, .int 0, .int 0, .int 0, .int 2, .int 0, .int 0])), (u4000 0, .inr (5, [.ref (u4000 1), .ref (u4000 2), .ref (u4000 3), .ref (u4000 4), .ref (u4000 5), .ref (u4000 6), .ref (u4000 7), .int 0, .int (-1), .int 0, .int 0, .int 0, .int 0])), (u4000 2, .inl (cyI, 8, .inl (fun _ => 0))), (u4000 3, .inl (cyI, 8, .inl (fun _ => 0)))] := hD
  refine lv_aload_n hx hb dX5_startAs_79 rfl (lv_at hl 1 rfl) ?_
  refine lv_aload_n hx hb dX5_startAs_80 rfl (lv_at hl 2 rfl) ?_
  refine va_get (D := (dC, dI)) (ci := 1) (v := .int 0) (C := RX1) (T := TX1) (N := 11) hx hb hts hi1 hown hK hP 0 rfl rfl 10 (by decide) (hts _ (ow_m (k := 7) rfl)) (fun _ h9 => h9) rfl dX5_startAs_81 ?_
  refine va_put (D := (dC, dI)) (ci := 5) (v := .int 0) (ty := .int) (C := RX5) (T := TX5) (N := 13) hx hb hts hi5 tyX5 tyX5_ok nmX5 hown hK hP hD hS 1 rfl rfl 11 (by decide) (hts _ (ow_m (k := 8) rfl)) (fun _ h9 => h9) rfl (by decide +kernel) rfl rfl (Nat.le_of_ble_eq_true rfl) dX5_startAs_84 (fun H locs hP hD hS => ?_)
  have hP : va_P (dC, dI) vwCl [(q3796, .inr (1, [.ref (u3834 0), .ref (u3834 1), .ref (u3834 2), .ref (u3834 6), .int 0, .int 0, .int 0, .int 0, .int 2, .int 0, .int 0])), (u4000 0, .inr (5, [.ref (u4000 1), .ref (u4000 2), .ref (u4000 3), .ref (u4000 4), .ref (u4000 5), .ref (u4000 6), .ref (u4000 7), .int 0, .int (-1), .int 0, .int 0, .int 0, .int 0])), (u4000 2, .inl (cyI, 8, .inl (fun _ => 0))), (u4000 3, .inl (cyI, 8, .inl (fun _ => 0)))] H := hP
  have hD : va_D A [(q3796, .inr (1, [.ref (u3834 0), .ref (u3834 1), .ref (u3834 2), .ref (u3834 6), .int 0, .int 0, .int 0, .int 0, .int 2, .int 0, .int 0])), (u4000 0, .inr (5, [.ref (u4000 1), .ref (u4000 2), .ref (u4000 3), .ref (u4000 4), .ref (u4000 5), .ref (u4000 6), .ref (u4000 7), .int 0, .int (-1), .int 0, .int 0, .int 0, .int 0])), (u4000 2, .inl (cyI, 8, .inl (fun _ => 0))), (u4000 3, .inl (cyI, 8, .inl (fun _ => 0)))] := hD
  refine lv_aload_n hx hb dX5_startAs_87 rfl (lv_at hl 1 rfl) ?_
  refine lv_iconst (v := 0) hx hb dX5_startAs_88 (by decide) ?_
  refine va_put (D := (dC, dI)) (ci := 5) (v := .int 0) (ty := .int) (C := RX5) (T := TX5) (N := 13) hx hb hts hi5 tyX5 tyX5_ok nmX5 hown hK hP hD hS 1 rfl rfl 12 (by decide) (hts _ (ow_m (k := 9) rfl)) (fun _ h9 => h9) rfl (by decide +kernel) rfl rfl (Nat.le_of_ble_eq_true rfl) dX5_startAs_89 (fun H locs hP hD hS => ?_)
  have hP : va_P (dC, dI) vwCl [(q3796, .inr (1, [.ref (u3834 0), .ref (u3834 1), .ref (u3834 2), .ref (u3834 6), .int 0, .int 0, .int 0, .int 0, .int 2, .int 0, .int 0])), (u4000 0, .inr (5, [.ref (u4000 1), .ref (u4000 2), .ref (u4000 3), .ref (u4000 4), .ref (u4000 5), .ref (u4000 6), .ref (u4000 7), .int 0, .int (-1), .int 0, .int 0, .int 0, .int 0])), (u4000 2, .inl (cyI, 8, .inl (fun _ => 0))), (u4000 3, .inl (cyI, 8, .inl (fun _ => 0)))] H := hP
  have hD : va_D A [(q3796, .inr (1, [.ref (u3834 0), .ref (u3834 1), .ref (u3834 2), .ref (u3834 6), .int 0, .int 0, .int 0, .int 0, .int 2, .int 0, .int 0])), (u4000 0, .inr (5, [.ref (u4000 1), .ref (u4000 2), .ref (u4000 3), .ref (u4000 4), .ref (u4000 5), .ref (u4000 6), .ref (u4000 7), .int 0, .int (-1), .int 0, .int 0, .int 0, .int 0])), (u4000 2, .inl (cyI, 8, .inl (fun _ => 0))), (u4000 3, .inl (cyI, 8, .inl (fun _ => 0)))] := hD
  exact W.vret hx hb hr (fun t ht hW => ⟨⟨(), rfl, trivial, cE.of ht hP hD [0, 1, 2, 3] (by decide) rfl⟩, hS.F ht⟩) hS.2.2 dX5_startAs_92
def wo_k_X6_begin_v2 : List Cond := [.fieldLink RX6 37 "ReplicaChain" "rules" "LReplicaChain$Rules;", .fieldLink RX6 16 "ReplicaChain" "plan" "LReplicaChain$Plan;", .methodLink RX6 97 yX3_follow, .instanceMethod yX3_follow, .selects RX3 yX3_follow yX3_follow, .initialized RX3, .fieldLink RX6 100 "ReplicaChain" "at" "I", .fieldLink RX6 103 "ReplicaChain" "top" "I", .methodLink RX6 106 yX6_stateAt, .instanceMethod yX6_stateAt, .selects RX6 yX6_stateAt yX6_stateAt, .initialized RX6, .fieldLink RX6 110 "ReplicaChain" "now" "LReplicaChain$State;", .methodLink RX6 113 yX5_startAs, .instanceMethod yX5_startAs, .selects RX5 yX5_startAs yX5_startAs, .initialized RX5, .fieldLink RX6 55 "ReplicaChain" "boxFull" "[Z", .fieldLink RX6 116 "ReplicaChain" "lyingCount" "I", .fieldLink RX6 69 "ReplicaChain" "sightings" "LReplicaChain$Sightings;", .methodLink RX6 119 yX4_forget, .instanceMethod yX4_forget, .selects RX4 yX4_forget yX4_forget, .initialized RX4]
def wq_k_X6_begin_v2 : List Cond := .code yX6_begin cX6_begin 2 none :: (wo_k_X6_begin_v2 ++ (wq_k_X3_follow_v2 ++ (wq_k_X6_stateAt_v2 ++ (wq_k_X5_startAs_v3 ++ (wq_k_X4_forget_v2 ++ (wsX60 ++ []))))))
theorem gd_k_X6_begin_v2 : Gd wq_k_X6_begin_v2 := gd_c (gd_a (gd_o (by decide +kernel)) (gd_a gd_k_X3_follow_v2 (gd_a gd_k_X6_stateAt_v2 (gd_a gd_k_X5_startAs_v3 (gd_a gd_k_X4_forget_v2 (gd_a gd_u gd_0))))))
abbrev wc_k_X6_begin_v2 (cyB cyI cyJ cyZ cyO : ClassId) (h0 : Nat) (q3795 : Nat) (q3796 : Nat) (q3835 : Nat) (q3874 : Nat) (q3877 : Nat) (q3880 : Nat) (q3881 : Nat) (q3898 : Nat) (q3899 : Nat) (q3900 : Nat) (q3901 : Nat) (q3902 : Nat) (q3913 : Nat) (u3834 : Nat → Nat) (u3912 : Nat → Nat) : va_W := [(h0, .inr (6, [.ref q3795, .int 0, .ref q3796, .ref q3835, .ref q3874, .ref q3877, .ref q3880, .int 0, .int 0, .null, .ref q3881, .ref q3898, .ref q3899, .ref q3900, .int 0, .ref q3901, .int 0, .ref q3902, .ref q3913, .int 0])), (q3796, .inr (1, [.ref (u3834 0), .ref (u3834 1), .ref (u3834 2), .ref (u3834 6), .int 0, .int 0, .int 0, .int 0, .int 2, .int 0, .int 0])), (q3877, .inr (3, [.ref q3796, .int 0])), (q3880, .inl (cyO, 41, .inr (.inr (.inr (.inr (fun _ => none)))))), (q3899, .inl (cyZ, 3, .inl (fun _ => 0))), (q3902, .inr (4, [.ref (u3912 0), .ref (u3912 1), .ref (u3912 2), .ref (u3912 3), .int 0]))]
set_option maxHeartbeats 4000000 in
set_option maxRecDepth 100000 in
theorem k_X6_begin_v2 (l : Launch) (dC : Nat → ClassId) (dI : Nat → Nat → Nat) (cyB cyI cyJ cyZ cyO : ClassId) (h0 : Nat) (q3795 : Nat) (q3796 : Nat) (q3835 : Nat) (q3874 : Nat) (q3877 : Nat) (q3880 : Nat) (q3881 : Nat) (q3898 : Nat) (q3899 : Nat) (q3900 : Nat) (q3901 : Nat) (q3902 : Nat) (q3913 : Nat) (u3834 : Nat → Nat) (u3912 : Nat → Nat) (sz : Nat) : Met l yX6_begin wq_k_X6_begin_v2 ({ frames := 3, cells := 8, slots := 773, locals := 62 }) (va_Pc [.ref h0] (cB (dC, dI) (kT cyB cyI cyJ cyZ cyO) (wc_k_X6_begin_v2 cyB cyI cyJ cyZ cyO h0 q3795 q3796 q3835 q3874 q3877 q3880 q3881 q3898 q3899 q3900 q3901 q3902 q3913 u3834 u3912) sz)) (va_Qv (fun _ => True) (fun (u : Nat → Nat) t => cE (dC, dI) (va_A (wc_k_X6_begin_v2 cyB cyI cyJ cyZ cyO h0 q3795 q3796 q3835 q3874 q3877 q3880 q3881 q3898 q3899 q3900 q3901 q3902 q3913 u3834 u3912) sz) ([(h0, .inr (6, [.ref q3795, .int 0, .ref q3796, .ref q3835, .ref q3874, .ref q3877, .ref q3880, .int 0, .int 0, .ref (u 5), .ref q3881, .ref q3898, .ref q3899, .ref q3900, .int 0, .ref q3901, .int 0, .ref q3902, .ref q3913, .int 0])), (q3796, .inr (1, [.ref (u3834 0), .ref (u3834 1), .ref (u3834 2), .ref (u3834 6), .int 0, .int 0, .int 0, .int 0, .int 2, .int 0, .int 0])), (q3877, .inr (3, [.ref q3796, .int 0])), (q3880, .inl (cyO, 41, .inr (.inr (.inr (.inr (va_up (fun _ => none) 0 (some (u 5)))))))), (q3899, .inl (cyZ, 3, .inl (fun _ => 0))), (q3902, .inr (4, [.ref (u3912 0), .ref (u3912 1), .ref (u3912 2), .ref (u3912 3), .int 0])), (u 0, .inl (cyI, 6, .inl (fun _ => 0))), (u 1, .inl (cyI, 328, .inl (fun _ => 0))), (u 2, .inl (cyI, 328, .inl (fun _ => 0))), (u 3, .inl (cyI, 41, .inl (fun _ => 0))), (u 4, .inl (cyI, 41, .inl (fun _ => 0))), (u 5, .inr (5, [.ref (u 0), .ref (u 6), .ref (u 7), .ref (u 1), .ref (u 2), .ref (u 3), .ref (u 4), .int 0, .int (-1), .int 0, .int 0, .int 0, .int 0])), (u 6, .inl (cyI, 8, .inl (fun _ => 0))), (u 7, .inl (cyI, 8, .inl (fun _ => 0)))]) t.heap) (va_A (wc_k_X6_begin_v2 cyB cyI cyJ cyZ cyO h0 q3795 q3796 q3835 q3874 q3877 q3880 q3881 q3898 q3899 q3900 q3901 q3902 q3913 u3834 u3912) sz)) 8 773 (va_A (wc_k_X6_begin_v2 cyB cyI cyJ cyZ cyO h0 q3795 q3796 q3835 q3874 q3877 q3880 q3881 q3898 q3899 q3900 q3901 q3902 q3913 u3834 u3912) sz) := by
  refine Met.ofW (cc := cX6_begin) (maxL := 2) (ret := none) (by decide) rfl ?_
  intro p e s m args below meth c s₁ B hml hv
  obtain ⟨rfl, hsz, hP, hKN, hD0⟩ := hv
  have hx := B.exec
  have hb := B.bytes
  have hr := B.returns
  have hts := atoms_spec (ws := wq_k_X6_begin_v2) B.pre
  have hown : s.vm.findClass RX6 = some m.cls := findClass_of_methodNamed B.named
  have hlocks := B.notSynchronized
  have hK := hKN.1
  have hfix : CallFix p m c cX6_begin 2 s [.ref h0].toArray wq_k_X6_begin_v2 RX6 := ⟨hx, hb, hml, hown, hts⟩
  have hi6 : ∀ w ∈ wsX60, w ∈ wq_k_X6_begin_v2 := (sb_c (sb_r (sb_r (sb_r (sb_r sb_l)))))
  subst hsz
  have hD := hD0.self (sz := s.heap.size)
  generalize hAe : va_A (wc_k_X6_begin_v2 cyB cyI cyJ cyZ cyO h0 q3795 q3796 q3835 q3874 q3877 q3880 q3881 q3898 q3899 q3900 q3901 q3902 q3913 u3834 u3912) s.heap.size = A at hD ⊢
  have hA : ∀ q : Nat, s.heap.size ≤ q → A q := fun q h => by rw [← hAe]; exact Or.inr h
  have hS : va_S A s.heap s.heap [] := va_S.rf
  have hl := lv_entry ([.ref h0]) (n := 2) (Nat.le_of_ble_eq_true rfl)
  rw [lg_entry_eq]
  generalize (lg_sl ([.ref h0]) ++ List.replicate (2 - (lg_sl ([.ref h0])).length) Slot.unset).toArray = ls at hl ⊢
  have hl : lv_has ls 2 [(0, .ref h0)] := hl
  refine lv_aload_n hx hb dX6_begin_0 rfl (lv_at hl 0 rfl) ?_
  refine va_get (D := (dC, dI)) (ci := 6) (v := .ref q3877) (C := RX6) (T := TX6) (N := 20) hx hb hts hi6 hown hK hP 0 rfl rfl 5 (by decide) (hts _ (ow_m (k := 0) rfl)) (fun _ h9 => h9) rfl dX6_begin_1 ?_
  refine lv_aload_n hx hb dX6_begin_4 rfl (lv_at hl 0 rfl) ?_
  refine va_get (D := (dC, dI)) (ci := 6) (v := .ref q3796) (C := RX6) (T := TX6) (N := 20) hx hb hts hi6 hown hK hP 0 rfl rfl 2 (by decide) (hts _ (ow_m (k := 1) rfl)) (fun _ h9 => h9) rfl dX6_begin_5 ?_
  refine gf_v (wr := [(h0, .inr (6, [.ref q3795, .int 0, .ref q3796, .ref q3835, .ref q3874, .ref q3877, .ref q3880, .int 0, .int 0, .null, .ref q3881, .ref q3898, .ref q3899, .ref q3900, .int 0, .ref q3901, .int 0, .ref q3902, .ref q3913, .int 0])), (q3796, .inr (1, [.ref (u3834 0), .ref (u3834 1), .ref (u3834 2), .ref (u3834 6), .int 0, .int 0, .int 0, .int 0, .int 2, .int 0, .int 0])), (q3880, .inl (cyO, 41, .inr (.inr (.inr (.inr (fun _ => none)))))), (q3899, .inl (cyZ, 3, .inl (fun _ => 0))), (q3902, .inr (4, [.ref (u3912 0), .ref (u3912 1), .ref (u3912 2), .ref (u3912 3), .int 0]))]) (va_runV (As := [.ref q3796]) (rest := []) hfix (k_X3_follow_v2 l dC dI cyB cyI cyJ cyZ cyO q3877 q3796 _) (cwV 1 hts (gi_V (ow_m (k := 2) rfl) (ow_m (k := 3) rfl) (ow_m (k := 4) rfl) (ow_m (k := 5) rfl) (sb_c sb_l) gd_k_X3_follow_v2) rfl rfl rfl (by decide +kernel) ⟨Nat.le_of_ble_eq_true rfl, Nat.le_of_ble_eq_true rfl⟩) (g_preV hKN hP hD [2] rfl (by decide) 0 3 rfl rfl) rfl rfl hl.1 rfl (lv_room (Nat.le_of_ble_eq_true rfl)) dX6_begin_8 ⟨Nat.le_of_ble_eq_true rfl, Nat.le_of_ble_eq_true rfl⟩) hP hD hS hA [2] [0, 1, 3, 4, 5] rfl rfl (by decide) (by decide) (fun u3981 H locs qu3981 hP hD hS => ?_)
  have hP : va_P (dC, dI) vwCl [(h0, .inr (6, [.ref q3795, .int 0, .ref q3796, .ref q3835, .ref q3874, .ref q3877, .ref q3880, .int 0, .int 0, .null, .ref q3881, .ref q3898, .ref q3899, .ref q3900, .int 0, .ref q3901, .int 0, .ref q3902, .ref q3913, .int 0])), (q3796, .inr (1, [.ref (u3834 0), .ref (u3834 1), .ref (u3834 2), .ref (u3834 6), .int 0, .int 0, .int 0, .int 0, .int 2, .int 0, .int 0])), (q3880, .inl (cyO, 41, .inr (.inr (.inr (.inr (fun _ => none)))))), (q3899, .inl (cyZ, 3, .inl (fun _ => 0))), (q3902, .inr (4, [.ref (u3912 0), .ref (u3912 1), .ref (u3912 2), .ref (u3912 3), .int 0])), (q3877, .inr (3, [.ref q3796, .int 0]))] H := hP
  have hD : va_D A [(h0, .inr (6, [.ref q3795, .int 0, .ref q3796, .ref q3835, .ref q3874, .ref q3877, .ref q3880, .int 0, .int 0, .null, .ref q3881, .ref q3898, .ref q3899, .ref q3900, .int 0, .ref q3901, .int 0, .ref q3902, .ref q3913, .int 0])), (q3796, .inr (1, [.ref (u3834 0), .ref (u3834 1), .ref (u3834 2), .ref (u3834 6), .int 0, .int 0, .int 0, .int 0, .int 2, .int 0, .int 0])), (q3880, .inl (cyO, 41, .inr (.inr (.inr (.inr (fun _ => none)))))), (q3899, .inl (cyZ, 3, .inl (fun _ => 0))), (q3902, .inr (4, [.ref (u3912 0), .ref (u3912 1), .ref (u3912 2), .ref (u3912 3), .int 0])), (q3877, .inr (3, [.ref q3796, .int 0]))] := hD
  refine lv_aload_n hx hb dX6_begin_11 rfl (lv_at hl 0 rfl) ?_
  refine lv_iconst (v := 0) hx hb dX6_begin_12 (by decide) ?_
  refine va_put (D := (dC, dI)) (ci := 6) (v := .int 0) (ty := .int) (C := RX6) (T := TX6) (N := 20) hx hb hts hi6 tyX6 tyX6_ok nmX6 hown hK hP hD hS 0 rfl rfl 7 (by decide) (hts _ (ow_m (k := 6) rfl)) (fun _ h9 => h9) rfl (by decide +kernel) rfl rfl (Nat.le_of_ble_eq_true rfl) dX6_begin_13 (fun H locs hP hD hS => ?_)
  have hP : va_P (dC, dI) vwCl [(h0, .inr (6, [.ref q3795, .int 0, .ref q3796, .ref q3835, .ref q3874, .ref q3877, .ref q3880, .int 0, .int 0, .null, .ref q3881, .ref q3898, .ref q3899, .ref q3900, .int 0, .ref q3901, .int 0, .ref q3902, .ref q3913, .int 0])), (q3796, .inr (1, [.ref (u3834 0), .ref (u3834 1), .ref (u3834 2), .ref (u3834 6), .int 0, .int 0, .int 0, .int 0, .int 2, .int 0, .int 0])), (q3880, .inl (cyO, 41, .inr (.inr (.inr (.inr (fun _ => none)))))), (q3899, .inl (cyZ, 3, .inl (fun _ => 0))), (q3902, .inr (4, [.ref (u3912 0), .ref (u3912 1), .ref (u3912 2), .ref (u3912 3), .int 0])), (q3877, .inr (3, [.ref q3796, .int 0]))] H := hP
  have hD : va_D A [(h0, .inr (6, [.ref q3795, .int 0, .ref q3796, .ref q3835, .ref q3874, .ref q3877, .ref q3880, .int 0, .int 0, .null, .ref q3881, .ref q3898, .ref q3899, .ref q3900, .int 0, .ref q3901, .int 0, .ref q3902, .ref q3913, .int 0])), (q3796, .inr (1, [.ref (u3834 0), .ref (u3834 1), .ref (u3834 2), .ref (u3834 6), .int 0, .int 0, .int 0, .int 0, .int 2, .int 0, .int 0])), (q3880, .inl (cyO, 41, .inr (.inr (.inr (.inr (fun _ => none)))))), (q3899, .inl (cyZ, 3, .inl (fun _ => 0))), (q3902, .inr (4, [.ref (u3912 0), .ref (u3912 1), .ref (u3912 2), .ref (u3912 3), .int 0])), (q3877, .inr (3, [.ref q3796, .int 0]))] := hD
  refine lv_aload_n hx hb dX6_begin_16 rfl (lv_at hl 0 rfl) ?_
  refine lv_iconst (v := 0) hx hb dX6_begin_17 (by decide) ?_
  refine va_put (D := (dC, dI)) (ci := 6) (v := .int 0) (ty := .int) (C := RX6) (T := TX6) (N := 20) hx hb hts hi6 tyX6 tyX6_ok nmX6 hown hK hP hD hS 0 rfl rfl 8 (by decide) (hts _ (ow_m (k := 7) rfl)) (fun _ h9 => h9) rfl (by decide +kernel) rfl rfl (Nat.le_of_ble_eq_true rfl) dX6_begin_18 (fun H locs hP hD hS => ?_)
  have hP : va_P (dC, dI) vwCl [(h0, .inr (6, [.ref q3795, .int 0, .ref q3796, .ref q3835, .ref q3874, .ref q3877, .ref q3880, .int 0, .int 0, .null, .ref q3881, .ref q3898, .ref q3899, .ref q3900, .int 0, .ref q3901, .int 0, .ref q3902, .ref q3913, .int 0])), (q3796, .inr (1, [.ref (u3834 0), .ref (u3834 1), .ref (u3834 2), .ref (u3834 6), .int 0, .int 0, .int 0, .int 0, .int 2, .int 0, .int 0])), (q3880, .inl (cyO, 41, .inr (.inr (.inr (.inr (fun _ => none)))))), (q3899, .inl (cyZ, 3, .inl (fun _ => 0))), (q3902, .inr (4, [.ref (u3912 0), .ref (u3912 1), .ref (u3912 2), .ref (u3912 3), .int 0])), (q3877, .inr (3, [.ref q3796, .int 0]))] H := hP
  have hD : va_D A [(h0, .inr (6, [.ref q3795, .int 0, .ref q3796, .ref q3835, .ref q3874, .ref q3877, .ref q3880, .int 0, .int 0, .null, .ref q3881, .ref q3898, .ref q3899, .ref q3900, .int 0, .ref q3901, .int 0, .ref q3902, .ref q3913, .int 0])), (q3796, .inr (1, [.ref (u3834 0), .ref (u3834 1), .ref (u3834 2), .ref (u3834 6), .int 0, .int 0, .int 0, .int 0, .int 2, .int 0, .int 0])), (q3880, .inl (cyO, 41, .inr (.inr (.inr (.inr (fun _ => none)))))), (q3899, .inl (cyZ, 3, .inl (fun _ => 0))), (q3902, .inr (4, [.ref (u3912 0), .ref (u3912 1), .ref (u3912 2), .ref (u3912 3), .int 0])), (q3877, .inr (3, [.ref q3796, .int 0]))] := hD
  refine lv_aload_n hx hb dX6_begin_21 rfl (lv_at hl 0 rfl) ?_
  refine lv_aload_n hx hb dX6_begin_22 rfl (lv_at hl 0 rfl) ?_
  refine lv_iconst (v := 0) hx hb dX6_begin_23 (by decide) ?_
  refine gf_r (wr := [(q3796, .inr (1, [.ref (u3834 0), .ref (u3834 1), .ref (u3834 2), .ref (u3834 6), .int 0, .int 0, .int 0, .int 0, .int 2, .int 0, .int 0])), (q3899, .inl (cyZ, 3, .inl (fun _ => 0))), (q3902, .inr (4, [.ref (u3912 0), .ref (u3912 1), .ref (u3912 2), .ref (u3912 3), .int 0])), (q3877, .inr (3, [.ref q3796, .int 0]))]) (va_runV (As := [.int 0]) (rest := [.ref h0]) hfix (k_X6_stateAt_v2 l dC dI cyB cyI cyJ cyZ cyO h0 q3795 q3796 q3835 q3874 q3877 q3880 q3881 q3898 q3899 q3900 q3901 q3902 q3913 _) (cwV 1 hts (gi_V (ow_m (k := 8) rfl) (ow_m (k := 9) rfl) (ow_m (k := 10) rfl) (ow_m (k := 11) rfl) (sb_c (sb_r sb_l)) gd_k_X6_stateAt_v2) rfl rfl rfl (by decide +kernel) ⟨Nat.le_of_ble_eq_true rfl, Nat.le_of_ble_eq_true rfl⟩) (g_preV hKN hP hD [0, 2] rfl (by decide) 0 6 rfl rfl) rfl rfl hl.1 rfl (lv_room (Nat.le_of_ble_eq_true rfl)) dX6_begin_24 ⟨Nat.le_of_ble_eq_true rfl, Nat.le_of_ble_eq_true rfl⟩) hP hD hS hA [0, 2] [1, 3, 4, 5] rfl rfl (by decide) (by decide) (fun u4000 H locs qu4000 hP hD hS => ?_)
  have hP : va_P (dC, dI) vwCl [(q3796, .inr (1, [.ref (u3834 0), .ref (u3834 1), .ref (u3834 2), .ref (u3834 6), .int 0, .int 0, .int 0, .int 0, .int 2, .int 0, .int 0])), (q3899, .inl (cyZ, 3, .inl (fun _ => 0))), (q3902, .inr (4, [.ref (u3912 0), .ref (u3912 1), .ref (u3912 2), .ref (u3912 3), .int 0])), (q3877, .inr (3, [.ref q3796, .int 0])), (h0, .inr (6, [.ref q3795, .int 0, .ref q3796, .ref q3835, .ref q3874, .ref q3877, .ref q3880, .int 0, .int 0, .null, .ref q3881, .ref q3898, .ref q3899, .ref q3900, .int 0, .ref q3901, .int 0, .ref q3902, .ref q3913, .int 0])), (q3880, .inl (cyO, 41, .inr (.inr (.inr (.inr (va_up (fun _ => none) 0 (some (u4000 0)))))))), (u4000 0, .inr (5, [.ref (u4000 1), .ref (u4000 2), .ref (u4000 3), .ref (u4000 4), .ref (u4000 5), .ref (u4000 6), .ref (u4000 7), .int 0, .int (-1), .int 0, .int 0, .int 0, .int 0])), (u4000 1, .inl (cyI, 6, .inl (fun _ => 0))), (u4000 2, .inl (cyI, 8, .inl (fun _ => 0))), (u4000 3, .inl (cyI, 8, .inl (fun _ => 0))), (u4000 4, .inl (cyI, 328, .inl (fun _ => 0))), (u4000 5, .inl (cyI, 328, .inl (fun _ => 0))), (u4000 6, .inl (cyI, 41, .inl (fun _ => 0))), (u4000 7, .inl (cyI, 41, .inl (fun _ => 0)))] H := hP
  have hD : va_D A [(q3796, .inr (1, [.ref (u3834 0), .ref (u3834 1), .ref (u3834 2), .ref (u3834 6), .int 0, .int 0, .int 0, .int 0, .int 2, .int 0, .int 0])), (q3899, .inl (cyZ, 3, .inl (fun _ => 0))), (q3902, .inr (4, [.ref (u3912 0), .ref (u3912 1), .ref (u3912 2), .ref (u3912 3), .int 0])), (q3877, .inr (3, [.ref q3796, .int 0])), (h0, .inr (6, [.ref q3795, .int 0, .ref q3796, .ref q3835, .ref q3874, .ref q3877, .ref q3880, .int 0, .int 0, .null, .ref q3881, .ref q3898, .ref q3899, .ref q3900, .int 0, .ref q3901, .int 0, .ref q3902, .ref q3913, .int 0])), (q3880, .inl (cyO, 41, .inr (.inr (.inr (.inr (va_up (fun _ => none) 0 (some (u4000 0)))))))), (u4000 0, .inr (5, [.ref (u4000 1), .ref (u4000 2), .ref (u4000 3), .ref (u4000 4), .ref (u4000 5), .ref (u4000 6), .ref (u4000 7), .int 0, .int (-1), .int 0, .int 0, .int 0, .int 0])), (u4000 1, .inl (cyI, 6, .inl (fun _ => 0))), (u4000 2, .inl (cyI, 8, .inl (fun _ => 0))), (u4000 3, .inl (cyI, 8, .inl (fun _ => 0))), (u4000 4, .inl (cyI, 328, .inl (fun _ => 0))), (u4000 5, .inl (cyI, 328, .inl (fun _ => 0))), (u4000 6, .inl (cyI, 41, .inl (fun _ => 0))), (u4000 7, .inl (cyI, 41, .inl (fun _ => 0)))] := hD
  refine W.widen (k := 8) (n := 773) (by omega) (by omega) ?_
  refine va_put (D := (dC, dI)) (ci := 6) (v := .ref (u4000 0)) (ty := .object "ReplicaChain$State") (C := RX6) (T := TX6) (N := 20) hx hb hts hi6 tyX6 tyX6_ok nmX6 hown hK hP hD hS 4 rfl rfl 9 (by decide) (hts _ (ow_m (k := 12) rfl)) (fun _ h9 => h9) rfl (by decide +kernel) rfl rfl (Nat.le_of_ble_eq_true rfl) dX6_begin_27 (fun H locs hP hD hS => ?_)
  have hP : va_P (dC, dI) vwCl [(q3796, .inr (1, [.ref (u3834 0), .ref (u3834 1), .ref (u3834 2), .ref (u3834 6), .int 0, .int 0, .int 0, .int 0, .int 2, .int 0, .int 0])), (q3899, .inl (cyZ, 3, .inl (fun _ => 0))), (q3902, .inr (4, [.ref (u3912 0), .ref (u3912 1), .ref (u3912 2), .ref (u3912 3), .int 0])), (q3877, .inr (3, [.ref q3796, .int 0])), (h0, .inr (6, [.ref q3795, .int 0, .ref q3796, .ref q3835, .ref q3874, .ref q3877, .ref q3880, .int 0, .int 0, .ref (u4000 0), .ref q3881, .ref q3898, .ref q3899, .ref q3900, .int 0, .ref q3901, .int 0, .ref q3902, .ref q3913, .int 0])), (q3880, .inl (cyO, 41, .inr (.inr (.inr (.inr (va_up (fun _ => none) 0 (some (u4000 0)))))))), (u4000 0, .inr (5, [.ref (u4000 1), .ref (u4000 2), .ref (u4000 3), .ref (u4000 4), .ref (u4000 5), .ref (u4000 6), .ref (u4000 7), .int 0, .int (-1), .int 0, .int 0, .int 0, .int 0])), (u4000 1, .inl (cyI, 6, .inl (fun _ => 0))), (u4000 2, .inl (cyI, 8, .inl (fun _ => 0))), (u4000 3, .inl (cyI, 8, .inl (fun _ => 0))), (u4000 4, .inl (cyI, 328, .inl (fun _ => 0))), (u4000 5, .inl (cyI, 328, .inl (fun _ => 0))), (u4000 6, .inl (cyI, 41, .inl (fun _ => 0))), (u4000 7, .inl (cyI, 41, .inl (fun _ => 0)))] H := hP
  have hD : va_D A [(q3796, .inr (1, [.ref (u3834 0), .ref (u3834 1), .ref (u3834 2), .ref (u3834 6), .int 0, .int 0, .int 0, .int 0, .int 2, .int 0, .int 0])), (q3899, .inl (cyZ, 3, .inl (fun _ => 0))), (q3902, .inr (4, [.ref (u3912 0), .ref (u3912 1), .ref (u3912 2), .ref (u3912 3), .int 0])), (q3877, .inr (3, [.ref q3796, .int 0])), (h0, .inr (6, [.ref q3795, .int 0, .ref q3796, .ref q3835, .ref q3874, .ref q3877, .ref q3880, .int 0, .int 0, .ref (u4000 0), .ref q3881, .ref q3898, .ref q3899, .ref q3900, .int 0, .ref q3901, .int 0, .ref q3902, .ref q3913, .int 0])), (q3880, .inl (cyO, 41, .inr (.inr (.inr (.inr (va_up (fun _ => none) 0 (some (u4000 0)))))))), (u4000 0, .inr (5, [.ref (u4000 1), .ref (u4000 2), .ref (u4000 3), .ref (u4000 4), .ref (u4000 5), .ref (u4000 6), .ref (u4000 7), .int 0, .int (-1), .int 0, .int 0, .int 0, .int 0])), (u4000 1, .inl (cyI, 6, .inl (fun _ => 0))), (u4000 2, .inl (cyI, 8, .inl (fun _ => 0))), (u4000 3, .inl (cyI, 8, .inl (fun _ => 0))), (u4000 4, .inl (cyI, 328, .inl (fun _ => 0))), (u4000 5, .inl (cyI, 328, .inl (fun _ => 0))), (u4000 6, .inl (cyI, 41, .inl (fun _ => 0))), (u4000 7, .inl (cyI, 41, .inl (fun _ => 0)))] := hD
  refine lv_aload_n hx hb dX6_begin_30 rfl (lv_at hl 0 rfl) ?_
  refine va_get (D := (dC, dI)) (ci := 6) (v := .ref (u4000 0)) (C := RX6) (T := TX6) (N := 20) hx hb hts hi6 hown hK hP 4 rfl rfl 9 (by decide) (hts _ (ow_m (k := 12) rfl)) (fun _ h9 => h9) rfl dX6_begin_31 ?_
  refine lv_aload_n hx hb dX6_begin_34 rfl (lv_at hl 0 rfl) ?_
  refine va_get (D := (dC, dI)) (ci := 6) (v := .ref q3796) (C := RX6) (T := TX6) (N := 20) hx hb hts hi6 hown hK hP 4 rfl rfl 2 (by decide) (hts _ (ow_m (k := 1) rfl)) (fun _ h9 => h9) rfl dX6_begin_35 ?_
  refine gf_v (wr := [(q3899, .inl (cyZ, 3, .inl (fun _ => 0))), (q3902, .inr (4, [.ref (u3912 0), .ref (u3912 1), .ref (u3912 2), .ref (u3912 3), .int 0])), (q3877, .inr (3, [.ref q3796, .int 0])), (h0, .inr (6, [.ref q3795, .int 0, .ref q3796, .ref q3835, .ref q3874, .ref q3877, .ref q3880, .int 0, .int 0, .ref (u4000 0), .ref q3881, .ref q3898, .ref q3899, .ref q3900, .int 0, .ref q3901, .int 0, .ref q3902, .ref q3913, .int 0])), (q3880, .inl (cyO, 41, .inr (.inr (.inr (.inr (va_up (fun _ => none) 0 (some (u4000 0)))))))), (u4000 1, .inl (cyI, 6, .inl (fun _ => 0))), (u4000 4, .inl (cyI, 328, .inl (fun _ => 0))), (u4000 5, .inl (cyI, 328, .inl (fun _ => 0))), (u4000 6, .inl (cyI, 41, .inl (fun _ => 0))), (u4000 7, .inl (cyI, 41, .inl (fun _ => 0)))]) (va_runV (As := [.ref q3796]) (rest := []) hfix (k_X5_startAs_v3 l dC dI cyB cyI cyJ cyZ cyO q3796 u3834 u4000 _) (cwV 1 hts (gi_V (ow_m (k := 13) rfl) (ow_m (k := 14) rfl) (ow_m (k := 15) rfl) (ow_m (k := 16) rfl) (sb_c (sb_r (sb_r sb_l))) gd_k_X5_startAs_v3) rfl rfl rfl (by decide +kernel) ⟨Nat.le_of_ble_eq_true rfl, Nat.le_of_ble_eq_true rfl⟩) (g_preV hKN hP hD [0, 6, 8, 9] rfl (by decide) 1 5 rfl rfl) rfl rfl hl.1 rfl (lv_room (Nat.le_of_ble_eq_true rfl)) dX6_begin_38 ⟨Nat.le_of_ble_eq_true rfl, Nat.le_of_ble_eq_true rfl⟩) hP hD hS hA [0, 6, 8, 9] [1, 2, 3, 4, 5, 7, 10, 11, 12, 13] rfl rfl (by decide) (by decide) (fun u4022 H locs qu4022 hP hD hS => ?_)
  have hP : va_P (dC, dI) vwCl [(q3899, .inl (cyZ, 3, .inl (fun _ => 0))), (q3902, .inr (4, [.ref (u3912 0), .ref (u3912 1), .ref (u3912 2), .ref (u3912 3), .int 0])), (q3877, .inr (3, [.ref q3796, .int 0])), (h0, .inr (6, [.ref q3795, .int 0, .ref q3796, .ref q3835, .ref q3874, .ref q3877, .ref q3880, .int 0, .int 0, .ref (u4000 0), .ref q3881, .ref q3898, .ref q3899, .ref q3900, .int 0, .ref q3901, .int 0, .ref q3902, .ref q3913, .int 0])), (q3880, .inl (cyO, 41, .inr (.inr (.inr (.inr (va_up (fun _ => none) 0 (some (u4000 0)))))))), (u4000 1, .inl (cyI, 6, .inl (fun _ => 0))), (u4000 4, .inl (cyI, 328, .inl (fun _ => 0))), (u4000 5, .inl (cyI, 328, .inl (fun _ => 0))), (u4000 6, .inl (cyI, 41, .inl (fun _ => 0))), (u4000 7, .inl (cyI, 41, .inl (fun _ => 0))), (q3796, .inr (1, [.ref (u3834 0), .ref (u3834 1), .ref (u3834 2), .ref (u3834 6), .int 0, .int 0, .int 0, .int 0, .int 2, .int 0, .int 0])), (u4000 0, .inr (5, [.ref (u4000 1), .ref (u4000 2), .ref (u4000 3), .ref (u4000 4), .ref (u4000 5), .ref (u4000 6), .ref (u4000 7), .int 0, .int (-1), .int 0, .int 0, .int 0, .int 0])), (u4000 2, .inl (cyI, 8, .inl (fun _ => 0))), (u4000 3, .inl (cyI, 8, .inl (fun _ => 0)))] H := hP
  have hD : va_D A [(q3899, .inl (cyZ, 3, .inl (fun _ => 0))), (q3902, .inr (4, [.ref (u3912 0), .ref (u3912 1), .ref (u3912 2), .ref (u3912 3), .int 0])), (q3877, .inr (3, [.ref q3796, .int 0])), (h0, .inr (6, [.ref q3795, .int 0, .ref q3796, .ref q3835, .ref q3874, .ref q3877, .ref q3880, .int 0, .int 0, .ref (u4000 0), .ref q3881, .ref q3898, .ref q3899, .ref q3900, .int 0, .ref q3901, .int 0, .ref q3902, .ref q3913, .int 0])), (q3880, .inl (cyO, 41, .inr (.inr (.inr (.inr (va_up (fun _ => none) 0 (some (u4000 0)))))))), (u4000 1, .inl (cyI, 6, .inl (fun _ => 0))), (u4000 4, .inl (cyI, 328, .inl (fun _ => 0))), (u4000 5, .inl (cyI, 328, .inl (fun _ => 0))), (u4000 6, .inl (cyI, 41, .inl (fun _ => 0))), (u4000 7, .inl (cyI, 41, .inl (fun _ => 0))), (q3796, .inr (1, [.ref (u3834 0), .ref (u3834 1), .ref (u3834 2), .ref (u3834 6), .int 0, .int 0, .int 0, .int 0, .int 2, .int 0, .int 0])), (u4000 0, .inr (5, [.ref (u4000 1), .ref (u4000 2), .ref (u4000 3), .ref (u4000 4), .ref (u4000 5), .ref (u4000 6), .ref (u4000 7), .int 0, .int (-1), .int 0, .int 0, .int 0, .int 0])), (u4000 2, .inl (cyI, 8, .inl (fun _ => 0))), (u4000 3, .inl (cyI, 8, .inl (fun _ => 0)))] := hD
  refine lv_iconst (v := 0) hx hb dX6_begin_41 (by decide) ?_
  refine lv_istore_n (lv' := [(1, .int 0), (0, .ref h0)]) hx hb dX6_begin_42 rfl hl (by decide) rfl (fun ls hl => ?_)
  refine lv_iload_n hx hb dX6_begin_43 rfl (lv_at hl 0 rfl) ?_
  refine lv_iconst (v := 3) hx hb dX6_begin_44 (by decide) ?_
  refine lv_icmp_ge (tgt := 61) hx hb dX6_begin_45 (by decide) (fun c4023 => absurd c4023 (by decide)) (fun _ => ?_)
  refine lv_aload_n hx hb dX6_begin_48 rfl (lv_at hl 1 rfl) ?_
  refine va_get (D := (dC, dI)) (ci := 6) (v := .ref q3899) (C := RX6) (T := TX6) (N := 20) hx hb hts hi6 hown hK hP 3 rfl rfl 12 (by decide) (hts _ (ow_m (k := 17) rfl)) (fun _ h9 => h9) rfl dX6_begin_49 ?_
  refine lv_iload_n hx hb dX6_begin_52 rfl (lv_at hl 0 rfl) ?_
  refine lv_iconst (v := 0) hx hb dX6_begin_53 (by decide) ?_
  refine va_zast hx hb hK hP hD hS 0 3 rfl rfl (vp_i (a := 0) (by decide) (by decide) (by decide)) dX6_begin_54 (fun H locs hP hD hS => ?_)
  have hP : va_P (dC, dI) vwCl [(q3899, .inl (cyZ, 3, .inl (upd (fun _ => 0) 0 0))), (q3902, .inr (4, [.ref (u3912 0), .ref (u3912 1), .ref (u3912 2), .ref (u3912 3), .int 0])), (q3877, .inr (3, [.ref q3796, .int 0])), (h0, .inr (6, [.ref q3795, .int 0, .ref q3796, .ref q3835, .ref q3874, .ref q3877, .ref q3880, .int 0, .int 0, .ref (u4000 0), .ref q3881, .ref q3898, .ref q3899, .ref q3900, .int 0, .ref q3901, .int 0, .ref q3902, .ref q3913, .int 0])), (q3880, .inl (cyO, 41, .inr (.inr (.inr (.inr (va_up (fun _ => none) 0 (some (u4000 0)))))))), (u4000 1, .inl (cyI, 6, .inl (fun _ => 0))), (u4000 4, .inl (cyI, 328, .inl (fun _ => 0))), (u4000 5, .inl (cyI, 328, .inl (fun _ => 0))), (u4000 6, .inl (cyI, 41, .inl (fun _ => 0))), (u4000 7, .inl (cyI, 41, .inl (fun _ => 0))), (q3796, .inr (1, [.ref (u3834 0), .ref (u3834 1), .ref (u3834 2), .ref (u3834 6), .int 0, .int 0, .int 0, .int 0, .int 2, .int 0, .int 0])), (u4000 0, .inr (5, [.ref (u4000 1), .ref (u4000 2), .ref (u4000 3), .ref (u4000 4), .ref (u4000 5), .ref (u4000 6), .ref (u4000 7), .int 0, .int (-1), .int 0, .int 0, .int 0, .int 0])), (u4000 2, .inl (cyI, 8, .inl (fun _ => 0))), (u4000 3, .inl (cyI, 8, .inl (fun _ => 0)))] H := hP
  have hD : va_D A [(q3899, .inl (cyZ, 3, .inl (upd (fun _ => 0) 0 0))), (q3902, .inr (4, [.ref (u3912 0), .ref (u3912 1), .ref (u3912 2), .ref (u3912 3), .int 0])), (q3877, .inr (3, [.ref q3796, .int 0])), (h0, .inr (6, [.ref q3795, .int 0, .ref q3796, .ref q3835, .ref q3874, .ref q3877, .ref q3880, .int 0, .int 0, .ref (u4000 0), .ref q3881, .ref q3898, .ref q3899, .ref q3900, .int 0, .ref q3901, .int 0, .ref q3902, .ref q3913, .int 0])), (q3880, .inl (cyO, 41, .inr (.inr (.inr (.inr (va_up (fun _ => none) 0 (some (u4000 0)))))))), (u4000 1, .inl (cyI, 6, .inl (fun _ => 0))), (u4000 4, .inl (cyI, 328, .inl (fun _ => 0))), (u4000 5, .inl (cyI, 328, .inl (fun _ => 0))), (u4000 6, .inl (cyI, 41, .inl (fun _ => 0))), (u4000 7, .inl (cyI, 41, .inl (fun _ => 0))), (q3796, .inr (1, [.ref (u3834 0), .ref (u3834 1), .ref (u3834 2), .ref (u3834 6), .int 0, .int 0, .int 0, .int 0, .int 2, .int 0, .int 0])), (u4000 0, .inr (5, [.ref (u4000 1), .ref (u4000 2), .ref (u4000 3), .ref (u4000 4), .ref (u4000 5), .ref (u4000 6), .ref (u4000 7), .int 0, .int (-1), .int 0, .int 0, .int 0, .int 0])), (u4000 2, .inl (cyI, 8, .inl (fun _ => 0))), (u4000 3, .inl (cyI, 8, .inl (fun _ => 0)))] := hD
  rw [upd_z] at hP hD
  refine lv_iinc (v := 1) (lv' := [(1, .int 1), (0, .ref h0)]) hx hb dX6_begin_55 hl (k := 0) rfl (by decide) (by decide) rfl (fun ls hl => ?_)
  refine lv_goto (tgt := 43) hx hb dX6_begin_58 (by decide) ?_
  refine lv_iload_n hx hb dX6_begin_43 rfl (lv_at hl 0 rfl) ?_
  refine lv_iconst (v := 3) hx hb dX6_begin_44 (by decide) ?_
  refine lv_icmp_ge (tgt := 61) hx hb dX6_begin_45 (by decide) (fun c4024 => absurd c4024 (by decide)) (fun _ => ?_)
  refine lv_aload_n hx hb dX6_begin_48 rfl (lv_at hl 1 rfl) ?_
  refine va_get (D := (dC, dI)) (ci := 6) (v := .ref q3899) (C := RX6) (T := TX6) (N := 20) hx hb hts hi6 hown hK hP 3 rfl rfl 12 (by decide) (hts _ (ow_m (k := 17) rfl)) (fun _ h9 => h9) rfl dX6_begin_49 ?_
  refine lv_iload_n hx hb dX6_begin_52 rfl (lv_at hl 0 rfl) ?_
  refine lv_iconst (v := 0) hx hb dX6_begin_53 (by decide) ?_
  refine va_zast hx hb hK hP hD hS 0 3 rfl rfl (vp_i (a := 1) (by decide) (by decide) (by decide)) dX6_begin_54 (fun H locs hP hD hS => ?_)
  have hP : va_P (dC, dI) vwCl [(q3899, .inl (cyZ, 3, .inl (upd (fun _ => 0) 1 0))), (q3902, .inr (4, [.ref (u3912 0), .ref (u3912 1), .ref (u3912 2), .ref (u3912 3), .int 0])), (q3877, .inr (3, [.ref q3796, .int 0])), (h0, .inr (6, [.ref q3795, .int 0, .ref q3796, .ref q3835, .ref q3874, .ref q3877, .ref q3880, .int 0, .int 0, .ref (u4000 0), .ref q3881, .ref q3898, .ref q3899, .ref q3900, .int 0, .ref q3901, .int 0, .ref q3902, .ref q3913, .int 0])), (q3880, .inl (cyO, 41, .inr (.inr (.inr (.inr (va_up (fun _ => none) 0 (some (u4000 0)))))))), (u4000 1, .inl (cyI, 6, .inl (fun _ => 0))), (u4000 4, .inl (cyI, 328, .inl (fun _ => 0))), (u4000 5, .inl (cyI, 328, .inl (fun _ => 0))), (u4000 6, .inl (cyI, 41, .inl (fun _ => 0))), (u4000 7, .inl (cyI, 41, .inl (fun _ => 0))), (q3796, .inr (1, [.ref (u3834 0), .ref (u3834 1), .ref (u3834 2), .ref (u3834 6), .int 0, .int 0, .int 0, .int 0, .int 2, .int 0, .int 0])), (u4000 0, .inr (5, [.ref (u4000 1), .ref (u4000 2), .ref (u4000 3), .ref (u4000 4), .ref (u4000 5), .ref (u4000 6), .ref (u4000 7), .int 0, .int (-1), .int 0, .int 0, .int 0, .int 0])), (u4000 2, .inl (cyI, 8, .inl (fun _ => 0))), (u4000 3, .inl (cyI, 8, .inl (fun _ => 0)))] H := hP
  have hD : va_D A [(q3899, .inl (cyZ, 3, .inl (upd (fun _ => 0) 1 0))), (q3902, .inr (4, [.ref (u3912 0), .ref (u3912 1), .ref (u3912 2), .ref (u3912 3), .int 0])), (q3877, .inr (3, [.ref q3796, .int 0])), (h0, .inr (6, [.ref q3795, .int 0, .ref q3796, .ref q3835, .ref q3874, .ref q3877, .ref q3880, .int 0, .int 0, .ref (u4000 0), .ref q3881, .ref q3898, .ref q3899, .ref q3900, .int 0, .ref q3901, .int 0, .ref q3902, .ref q3913, .int 0])), (q3880, .inl (cyO, 41, .inr (.inr (.inr (.inr (va_up (fun _ => none) 0 (some (u4000 0)))))))), (u4000 1, .inl (cyI, 6, .inl (fun _ => 0))), (u4000 4, .inl (cyI, 328, .inl (fun _ => 0))), (u4000 5, .inl (cyI, 328, .inl (fun _ => 0))), (u4000 6, .inl (cyI, 41, .inl (fun _ => 0))), (u4000 7, .inl (cyI, 41, .inl (fun _ => 0))), (q3796, .inr (1, [.ref (u3834 0), .ref (u3834 1), .ref (u3834 2), .ref (u3834 6), .int 0, .int 0, .int 0, .int 0, .int 2, .int 0, .int 0])), (u4000 0, .inr (5, [.ref (u4000 1), .ref (u4000 2), .ref (u4000 3), .ref (u4000 4), .ref (u4000 5), .ref (u4000 6), .ref (u4000 7), .int 0, .int (-1), .int 0, .int 0, .int 0, .int 0])), (u4000 2, .inl (cyI, 8, .inl (fun _ => 0))), (u4000 3, .inl (cyI, 8, .inl (fun _ => 0)))] := hD
  rw [upd_z] at hP hD
  refine lv_iinc (v := 2) (lv' := [(1, .int 2), (0, .ref h0)]) hx hb dX6_begin_55 hl (k := 0) rfl (by decide) (by decide) rfl (fun ls hl => ?_)
  refine lv_goto (tgt := 43) hx hb dX6_begin_58 (by decide) ?_
  refine lv_iload_n hx hb dX6_begin_43 rfl (lv_at hl 0 rfl) ?_
  refine lv_iconst (v := 3) hx hb dX6_begin_44 (by decide) ?_
  refine lv_icmp_ge (tgt := 61) hx hb dX6_begin_45 (by decide) (fun c4025 => absurd c4025 (by decide)) (fun _ => ?_)
  refine lv_aload_n hx hb dX6_begin_48 rfl (lv_at hl 1 rfl) ?_
  refine va_get (D := (dC, dI)) (ci := 6) (v := .ref q3899) (C := RX6) (T := TX6) (N := 20) hx hb hts hi6 hown hK hP 3 rfl rfl 12 (by decide) (hts _ (ow_m (k := 17) rfl)) (fun _ h9 => h9) rfl dX6_begin_49 ?_
  refine lv_iload_n hx hb dX6_begin_52 rfl (lv_at hl 0 rfl) ?_
  refine lv_iconst (v := 0) hx hb dX6_begin_53 (by decide) ?_
  refine va_zast hx hb hK hP hD hS 0 3 rfl rfl (vp_i (a := 2) (by decide) (by decide) (by decide)) dX6_begin_54 (fun H locs hP hD hS => ?_)
  have hP : va_P (dC, dI) vwCl [(q3899, .inl (cyZ, 3, .inl (upd (fun _ => 0) 2 0))), (q3902, .inr (4, [.ref (u3912 0), .ref (u3912 1), .ref (u3912 2), .ref (u3912 3), .int 0])), (q3877, .inr (3, [.ref q3796, .int 0])), (h0, .inr (6, [.ref q3795, .int 0, .ref q3796, .ref q3835, .ref q3874, .ref q3877, .ref q3880, .int 0, .int 0, .ref (u4000 0), .ref q3881, .ref q3898, .ref q3899, .ref q3900, .int 0, .ref q3901, .int 0, .ref q3902, .ref q3913, .int 0])), (q3880, .inl (cyO, 41, .inr (.inr (.inr (.inr (va_up (fun _ => none) 0 (some (u4000 0)))))))), (u4000 1, .inl (cyI, 6, .inl (fun _ => 0))), (u4000 4, .inl (cyI, 328, .inl (fun _ => 0))), (u4000 5, .inl (cyI, 328, .inl (fun _ => 0))), (u4000 6, .inl (cyI, 41, .inl (fun _ => 0))), (u4000 7, .inl (cyI, 41, .inl (fun _ => 0))), (q3796, .inr (1, [.ref (u3834 0), .ref (u3834 1), .ref (u3834 2), .ref (u3834 6), .int 0, .int 0, .int 0, .int 0, .int 2, .int 0, .int 0])), (u4000 0, .inr (5, [.ref (u4000 1), .ref (u4000 2), .ref (u4000 3), .ref (u4000 4), .ref (u4000 5), .ref (u4000 6), .ref (u4000 7), .int 0, .int (-1), .int 0, .int 0, .int 0, .int 0])), (u4000 2, .inl (cyI, 8, .inl (fun _ => 0))), (u4000 3, .inl (cyI, 8, .inl (fun _ => 0)))] H := hP
  have hD : va_D A [(q3899, .inl (cyZ, 3, .inl (upd (fun _ => 0) 2 0))), (q3902, .inr (4, [.ref (u3912 0), .ref (u3912 1), .ref (u3912 2), .ref (u3912 3), .int 0])), (q3877, .inr (3, [.ref q3796, .int 0])), (h0, .inr (6, [.ref q3795, .int 0, .ref q3796, .ref q3835, .ref q3874, .ref q3877, .ref q3880, .int 0, .int 0, .ref (u4000 0), .ref q3881, .ref q3898, .ref q3899, .ref q3900, .int 0, .ref q3901, .int 0, .ref q3902, .ref q3913, .int 0])), (q3880, .inl (cyO, 41, .inr (.inr (.inr (.inr (va_up (fun _ => none) 0 (some (u4000 0)))))))), (u4000 1, .inl (cyI, 6, .inl (fun _ => 0))), (u4000 4, .inl (cyI, 328, .inl (fun _ => 0))), (u4000 5, .inl (cyI, 328, .inl (fun _ => 0))), (u4000 6, .inl (cyI, 41, .inl (fun _ => 0))), (u4000 7, .inl (cyI, 41, .inl (fun _ => 0))), (q3796, .inr (1, [.ref (u3834 0), .ref (u3834 1), .ref (u3834 2), .ref (u3834 6), .int 0, .int 0, .int 0, .int 0, .int 2, .int 0, .int 0])), (u4000 0, .inr (5, [.ref (u4000 1), .ref (u4000 2), .ref (u4000 3), .ref (u4000 4), .ref (u4000 5), .ref (u4000 6), .ref (u4000 7), .int 0, .int (-1), .int 0, .int 0, .int 0, .int 0])), (u4000 2, .inl (cyI, 8, .inl (fun _ => 0))), (u4000 3, .inl (cyI, 8, .inl (fun _ => 0)))] := hD
  rw [upd_z] at hP hD
  refine lv_iinc (v := 3) (lv' := [(1, .int 3), (0, .ref h0)]) hx hb dX6_begin_55 hl (k := 0) rfl (by decide) (by decide) rfl (fun ls hl => ?_)
  refine lv_goto (tgt := 43) hx hb dX6_begin_58 (by decide) ?_
  refine lv_iload_n hx hb dX6_begin_43 rfl (lv_at hl 0 rfl) ?_
  refine lv_iconst (v := 3) hx hb dX6_begin_44 (by decide) ?_
  refine lv_icmp_ge (tgt := 61) hx hb dX6_begin_45 (by decide) (fun _ => ?_) (fun c4026 => absurd (by decide) c4026)
  refine lv_aload_n hx hb dX6_begin_61 rfl (lv_at hl 1 rfl) ?_
  refine lv_iconst (v := 0) hx hb dX6_begin_62 (by decide) ?_
  refine va_put (D := (dC, dI)) (ci := 6) (v := .int 0) (ty := .int) (C := RX6) (T := TX6) (N := 20) hx hb hts hi6 tyX6 tyX6_ok nmX6 hown hK hP hD hS 3 rfl rfl 14 (by decide) (hts _ (ow_m (k := 18) rfl)) (fun _ h9 => h9) rfl (by decide +kernel) rfl rfl (Nat.le_of_ble_eq_true rfl) dX6_begin_63 (fun H locs hP hD hS => ?_)
  have hP : va_P (dC, dI) vwCl [(q3899, .inl (cyZ, 3, .inl (fun _ => 0))), (q3902, .inr (4, [.ref (u3912 0), .ref (u3912 1), .ref (u3912 2), .ref (u3912 3), .int 0])), (q3877, .inr (3, [.ref q3796, .int 0])), (h0, .inr (6, [.ref q3795, .int 0, .ref q3796, .ref q3835, .ref q3874, .ref q3877, .ref q3880, .int 0, .int 0, .ref (u4000 0), .ref q3881, .ref q3898, .ref q3899, .ref q3900, .int 0, .ref q3901, .int 0, .ref q3902, .ref q3913, .int 0])), (q3880, .inl (cyO, 41, .inr (.inr (.inr (.inr (va_up (fun _ => none) 0 (some (u4000 0)))))))), (u4000 1, .inl (cyI, 6, .inl (fun _ => 0))), (u4000 4, .inl (cyI, 328, .inl (fun _ => 0))), (u4000 5, .inl (cyI, 328, .inl (fun _ => 0))), (u4000 6, .inl (cyI, 41, .inl (fun _ => 0))), (u4000 7, .inl (cyI, 41, .inl (fun _ => 0))), (q3796, .inr (1, [.ref (u3834 0), .ref (u3834 1), .ref (u3834 2), .ref (u3834 6), .int 0, .int 0, .int 0, .int 0, .int 2, .int 0, .int 0])), (u4000 0, .inr (5, [.ref (u4000 1), .ref (u4000 2), .ref (u4000 3), .ref (u4000 4), .ref (u4000 5), .ref (u4000 6), .ref (u4000 7), .int 0, .int (-1), .int 0, .int 0, .int 0, .int 0])), (u4000 2, .inl (cyI, 8, .inl (fun _ => 0))), (u4000 3, .inl (cyI, 8, .inl (fun _ => 0)))] H := hP
  have hD : va_D A [(q3899, .inl (cyZ, 3, .inl (fun _ => 0))), (q3902, .inr (4, [.ref (u3912 0), .ref (u3912 1), .ref (u3912 2), .ref (u3912 3), .int 0])), (q3877, .inr (3, [.ref q3796, .int 0])), (h0, .inr (6, [.ref q3795, .int 0, .ref q3796, .ref q3835, .ref q3874, .ref q3877, .ref q3880, .int 0, .int 0, .ref (u4000 0), .ref q3881, .ref q3898, .ref q3899, .ref q3900, .int 0, .ref q3901, .int 0, .ref q3902, .ref q3913, .int 0])), (q3880, .inl (cyO, 41, .inr (.inr (.inr (.inr (va_up (fun _ => none) 0 (some (u4000 0)))))))), (u4000 1, .inl (cyI, 6, .inl (fun _ => 0))), (u4000 4, .inl (cyI, 328, .inl (fun _ => 0))), (u4000 5, .inl (cyI, 328, .inl (fun _ => 0))), (u4000 6, .inl (cyI, 41, .inl (fun _ => 0))), (u4000 7, .inl (cyI, 41, .inl (fun _ => 0))), (q3796, .inr (1, [.ref (u3834 0), .ref (u3834 1), .ref (u3834 2), .ref (u3834 6), .int 0, .int 0, .int 0, .int 0, .int 2, .int 0, .int 0])), (u4000 0, .inr (5, [.ref (u4000 1), .ref (u4000 2), .ref (u4000 3), .ref (u4000 4), .ref (u4000 5), .ref (u4000 6), .ref (u4000 7), .int 0, .int (-1), .int 0, .int 0, .int 0, .int 0])), (u4000 2, .inl (cyI, 8, .inl (fun _ => 0))), (u4000 3, .inl (cyI, 8, .inl (fun _ => 0)))] := hD
  refine lv_aload_n hx hb dX6_begin_66 rfl (lv_at hl 1 rfl) ?_
  refine va_get (D := (dC, dI)) (ci := 6) (v := .ref q3902) (C := RX6) (T := TX6) (N := 20) hx hb hts hi6 hown hK hP 3 rfl rfl 17 (by decide) (hts _ (ow_m (k := 19) rfl)) (fun _ h9 => h9) rfl dX6_begin_67 ?_
  refine gf_v (wr := [(q3899, .inl (cyZ, 3, .inl (fun _ => 0))), (q3877, .inr (3, [.ref q3796, .int 0])), (h0, .inr (6, [.ref q3795, .int 0, .ref q3796, .ref q3835, .ref q3874, .ref q3877, .ref q3880, .int 0, .int 0, .ref (u4000 0), .ref q3881, .ref q3898, .ref q3899, .ref q3900, .int 0, .ref q3901, .int 0, .ref q3902, .ref q3913, .int 0])), (q3880, .inl (cyO, 41, .inr (.inr (.inr (.inr (va_up (fun _ => none) 0 (some (u4000 0)))))))), (u4000 1, .inl (cyI, 6, .inl (fun _ => 0))), (u4000 4, .inl (cyI, 328, .inl (fun _ => 0))), (u4000 5, .inl (cyI, 328, .inl (fun _ => 0))), (u4000 6, .inl (cyI, 41, .inl (fun _ => 0))), (u4000 7, .inl (cyI, 41, .inl (fun _ => 0))), (q3796, .inr (1, [.ref (u3834 0), .ref (u3834 1), .ref (u3834 2), .ref (u3834 6), .int 0, .int 0, .int 0, .int 0, .int 2, .int 0, .int 0])), (u4000 0, .inr (5, [.ref (u4000 1), .ref (u4000 2), .ref (u4000 3), .ref (u4000 4), .ref (u4000 5), .ref (u4000 6), .ref (u4000 7), .int 0, .int (-1), .int 0, .int 0, .int 0, .int 0])), (u4000 2, .inl (cyI, 8, .inl (fun _ => 0))), (u4000 3, .inl (cyI, 8, .inl (fun _ => 0)))]) (va_runV (As := []) (rest := []) hfix (k_X4_forget_v2 l dC dI cyB cyI cyJ cyZ cyO q3902 u3912 _) (cwV 0 hts (gi_V (ow_m (k := 20) rfl) (ow_m (k := 21) rfl) (ow_m (k := 22) rfl) (ow_m (k := 23) rfl) (sb_c (sb_r (sb_r (sb_r sb_l)))) gd_k_X4_forget_v2) rfl rfl rfl (by decide +kernel) ⟨Nat.le_of_ble_eq_true rfl, Nat.le_of_ble_eq_true rfl⟩) (g_preV hKN hP hD [1] rfl (by decide) 0 4 rfl rfl) rfl rfl hl.1 rfl (lv_room (Nat.le_of_ble_eq_true rfl)) dX6_begin_70 ⟨Nat.le_of_ble_eq_true rfl, Nat.le_of_ble_eq_true rfl⟩) hP hD hS hA [1] [0, 2, 3, 4, 5, 6, 7, 8, 9, 10, 11, 12, 13] rfl rfl (by decide) (by decide) (fun u4028 H locs qu4028 hP hD hS => ?_)
  have hP : va_P (dC, dI) vwCl [(q3899, .inl (cyZ, 3, .inl (fun _ => 0))), (q3877, .inr (3, [.ref q3796, .int 0])), (h0, .inr (6, [.ref q3795, .int 0, .ref q3796, .ref q3835, .ref q3874, .ref q3877, .ref q3880, .int 0, .int 0, .ref (u4000 0), .ref q3881, .ref q3898, .ref q3899, .ref q3900, .int 0, .ref q3901, .int 0, .ref q3902, .ref q3913, .int 0])), (q3880, .inl (cyO, 41, .inr (.inr (.inr (.inr (va_up (fun _ => none) 0 (some (u4000 0)))))))), (u4000 1, .inl (cyI, 6, .inl (fun _ => 0))), (u4000 4, .inl (cyI, 328, .inl (fun _ => 0))), (u4000 5, .inl (cyI, 328, .inl (fun _ => 0))), (u4000 6, .inl (cyI, 41, .inl (fun _ => 0))), (u4000 7, .inl (cyI, 41, .inl (fun _ => 0))), (q3796, .inr (1, [.ref (u3834 0), .ref (u3834 1), .ref (u3834 2), .ref (u3834 6), .int 0, .int 0, .int 0, .int 0, .int 2, .int 0, .int 0])), (u4000 0, .inr (5, [.ref (u4000 1), .ref (u4000 2), .ref (u4000 3), .ref (u4000 4), .ref (u4000 5), .ref (u4000 6), .ref (u4000 7), .int 0, .int (-1), .int 0, .int 0, .int 0, .int 0])), (u4000 2, .inl (cyI, 8, .inl (fun _ => 0))), (u4000 3, .inl (cyI, 8, .inl (fun _ => 0))), (q3902, .inr (4, [.ref (u3912 0), .ref (u3912 1), .ref (u3912 2), .ref (u3912 3), .int 0]))] H := hP
  have hD : va_D A [(q3899, .inl (cyZ, 3, .inl (fun _ => 0))), (q3877, .inr (3, [.ref q3796, .int 0])), (h0, .inr (6, [.ref q3795, .int 0, .ref q3796, .ref q3835, .ref q3874, .ref q3877, .ref q3880, .int 0, .int 0, .ref (u4000 0), .ref q3881, .ref q3898, .ref q3899, .ref q3900, .int 0, .ref q3901, .int 0, .ref q3902, .ref q3913, .int 0])), (q3880, .inl (cyO, 41, .inr (.inr (.inr (.inr (va_up (fun _ => none) 0 (some (u4000 0)))))))), (u4000 1, .inl (cyI, 6, .inl (fun _ => 0))), (u4000 4, .inl (cyI, 328, .inl (fun _ => 0))), (u4000 5, .inl (cyI, 328, .inl (fun _ => 0))), (u4000 6, .inl (cyI, 41, .inl (fun _ => 0))), (u4000 7, .inl (cyI, 41, .inl (fun _ => 0))), (q3796, .inr (1, [.ref (u3834 0), .ref (u3834 1), .ref (u3834 2), .ref (u3834 6), .int 0, .int 0, .int 0, .int 0, .int 2, .int 0, .int 0])), (u4000 0, .inr (5, [.ref (u4000 1), .ref (u4000 2), .ref (u4000 3), .ref (u4000 4), .ref (u4000 5), .ref (u4000 6), .ref (u4000 7), .int 0, .int (-1), .int 0, .int 0, .int 0, .int 0])), (u4000 2, .inl (cyI, 8, .inl (fun _ => 0))), (u4000 3, .inl (cyI, 8, .inl (fun _ => 0))), (q3902, .inr (4, [.ref (u3912 0), .ref (u3912 1), .ref (u3912 2), .ref (u3912 3), .int 0]))] := hD
  exact W.vret hx hb hr (fun t ht hW => ⟨⟨(fun k => match k with | 0 => u4000 1 | 1 => u4000 4 | 2 => u4000 5 | 3 => u4000 6 | 4 => u4000 7 | 5 => u4000 0 | 6 => u4000 2 | _ => u4000 3), rfl, trivial, cE.of ht hP hD [2, 9, 1, 3, 0, 13, 4, 5, 6, 7, 8, 10, 11, 12] (by decide) rfl⟩, hS.F ht⟩) hS.2.2 dX6_begin_73
def wo_k_X0_init_v5 : List Cond := [.methodLink RX0 3 objectInit, .instanceMethod objectInit, .code objectInit ⟨#[0xb1]⟩ 1 none, .arrayClass .int, .fieldLink RX0 11 "ReplicaChain$Formula" "steps" "[I", .fieldLink RX0 15 "ReplicaChain$Formula" "stack" "[I", .fieldLink RX0 18 "ReplicaChain$Formula" "facts" "[I"]
def wq_k_X0_init_v5 : List Cond := .code yX0_init cX0_init 1 none :: (wo_k_X0_init_v5 ++ (wsX00 ++ []))
theorem gd_k_X0_init_v5 : Gd wq_k_X0_init_v5 := gd_c (gd_a (gd_o (by decide +kernel)) (gd_a gd_u gd_0))
abbrev wc_k_X0_init_v5 (cyB cyI cyJ cyZ cyO : ClassId) (q4036 : Nat) : va_W := [(q4036, .inr (0, [.null, .null, .null, .int 0]))]
set_option maxHeartbeats 4000000 in
set_option maxRecDepth 100000 in
theorem k_X0_init_v5 (l : Launch) (dC : Nat → ClassId) (dI : Nat → Nat → Nat) (cyB cyI cyJ cyZ cyO : ClassId) (q4036 : Nat) (sz : Nat) : Met l yX0_init wq_k_X0_init_v5 ({ frames := 1, cells := 3, slots := 307, locals := 20 }) (va_Pc [.ref q4036] (cB (dC, dI) (kT cyB cyI cyJ cyZ cyO) (wc_k_X0_init_v5 cyB cyI cyJ cyZ cyO q4036) sz)) (va_Qv (fun _ => True) (fun (u : Nat → Nat) t => cE (dC, dI) (va_A (wc_k_X0_init_v5 cyB cyI cyJ cyZ cyO q4036) sz) ([(q4036, .inr (0, [.ref (u 0), .ref (u 1), .ref (u 2), .int 0])), (u 0, .inl (cyI, 270, .inl (fun _ => 0))), (u 1, .inl (cyI, 31, .inl (fun _ => 0))), (u 2, .inl (cyI, 6, .inl (fun _ => 0)))]) t.heap) (va_A (wc_k_X0_init_v5 cyB cyI cyJ cyZ cyO q4036) sz)) 3 307 (va_A (wc_k_X0_init_v5 cyB cyI cyJ cyZ cyO q4036) sz) := by
  refine Met.ofW (cc := cX0_init) (maxL := 1) (ret := none) (by decide) rfl ?_
  intro p e s m args below meth c s₁ B hml hv
  obtain ⟨rfl, hsz, hP, hKN, hD0⟩ := hv
  have hx := B.exec
  have hb := B.bytes
  have hr := B.returns
  have hts := atoms_spec (ws := wq_k_X0_init_v5) B.pre
  have hown : s.vm.findClass RX0 = some m.cls := findClass_of_methodNamed B.named
  have hlocks := B.notSynchronized
  have hin : meth.name = "<init>" := (name_of_methodNamed B.named B.method).1
  have hK := hKN.1
  have hfix : CallFix p m c cX0_init 1 s [.ref q4036].toArray wq_k_X0_init_v5 RX0 := ⟨hx, hb, hml, hown, hts⟩
  have hi0 : ∀ w ∈ wsX00, w ∈ wq_k_X0_init_v5 := (sb_c sb_l)
  subst hsz
  have hD := hD0.self (sz := s.heap.size)
  generalize hAe : va_A (wc_k_X0_init_v5 cyB cyI cyJ cyZ cyO q4036) s.heap.size = A at hD ⊢
  have hA : ∀ q : Nat, s.heap.size ≤ q → A q := fun q h => by rw [← hAe]; exact Or.inr h
  have hS : va_S A s.heap s.heap [] := va_S.rf
  have hl := lv_entry ([.ref q4036]) (n := 1) (Nat.le_of_ble_eq_true rfl)
  rw [lg_entry_eq]
  generalize (lg_sl ([.ref q4036]) ++ List.replicate (1 - (lg_sl ([.ref q4036])).length) Slot.unset).toArray = ls at hl ⊢
  have hl : lv_has ls 1 [(0, .ref q4036)] := hl
  refine lv_aload_n hx hb dX0_init_0 rfl (lv_at hl 0 rfl) ?_
  refine W.objInit hx hb hown (hts _ (ow_m (k := 0) rfl)) (hts _ (ow_m (k := 1) rfl)) (hts _ (ow_m (k := 2) rfl)) rfl (by rw [hml]; exact hl.1) rfl dX0_init_1 (Nat.le_of_ble_eq_true rfl) (Nat.le_of_ble_eq_true rfl) ?_
  refine W.eq (g2 := F0 m 4 ls []) rfl ?_
  refine lv_aload_n hx hb dX0_init_4 rfl (lv_at hl 0 rfl) ?_
  refine lv_sipush (v := 270) hx hb dX0_init_5 (by decide) ?_
  refine g_newa (a0 := (270, .inl (fun _ => 0))) hx hb (hts _ (ow_m (k := 3) rfl)) rfl hKN hP hD hS hA 1 rfl rfl (fun _ => rfl) (by decide) (by decide) (by decide) (Nat.le_of_ble_eq_true rfl) (Nat.le_of_ble_eq_true rfl) dX0_init_8 (fun q4040 H hP hD hS => ?_)
  have hP : va_P (dC, dI) vwCl [(q4036, .inr (0, [.null, .null, .null, .int 0])), (q4040, .inl (cyI, 270, .inl (fun _ => 0)))] H := hP
  have hD : va_D A [(q4036, .inr (0, [.null, .null, .null, .int 0])), (q4040, .inl (cyI, 270, .inl (fun _ => 0)))] := hD
  refine W.widen (k := 1) (n := 270) (by omega) (by omega) ?_
  refine va_putF (D := (dC, dI)) (ci := 0) (v := .ref q4040) (ty := .array .int) (C := RX0) (T := TX0) (N := 4) hx hb hts hi0 tyX0 tyX0_ok nmX0 hown hK hP hD hS 0 rfl rfl 0 (by decide) (hts _ (ow_m (k := 4) rfl)) (fun _ h9 => h9) rfl hin rfl (by decide +kernel) rfl rfl (Nat.le_of_ble_eq_true rfl) dX0_init_10 (fun H locs hP hD hS => ?_)
  have hP : va_P (dC, dI) vwCl [(q4036, .inr (0, [.ref q4040, .null, .null, .int 0])), (q4040, .inl (cyI, 270, .inl (fun _ => 0)))] H := hP
  have hD : va_D A [(q4036, .inr (0, [.ref q4040, .null, .null, .int 0])), (q4040, .inl (cyI, 270, .inl (fun _ => 0)))] := hD
  refine lv_aload_n hx hb dX0_init_13 rfl (lv_at hl 0 rfl) ?_
  refine lv_bipush (v := 31) hx hb dX0_init_14 (by decide) ?_
  refine g_newa (a0 := (31, .inl (fun _ => 0))) hx hb (hts _ (ow_m (k := 3) rfl)) rfl hKN hP hD hS hA 1 rfl rfl (fun _ => rfl) (by decide) (by decide) (by decide) (Nat.le_of_ble_eq_true rfl) (Nat.le_of_ble_eq_true rfl) dX0_init_16 (fun q4041 H hP hD hS => ?_)
  have hP : va_P (dC, dI) vwCl [(q4036, .inr (0, [.ref q4040, .null, .null, .int 0])), (q4040, .inl (cyI, 270, .inl (fun _ => 0))), (q4041, .inl (cyI, 31, .inl (fun _ => 0)))] H := hP
  have hD : va_D A [(q4036, .inr (0, [.ref q4040, .null, .null, .int 0])), (q4040, .inl (cyI, 270, .inl (fun _ => 0))), (q4041, .inl (cyI, 31, .inl (fun _ => 0)))] := hD
  refine W.widen (k := 2) (n := 301) (by omega) (by omega) ?_
  refine va_putF (D := (dC, dI)) (ci := 0) (v := .ref q4041) (ty := .array .int) (C := RX0) (T := TX0) (N := 4) hx hb hts hi0 tyX0 tyX0_ok nmX0 hown hK hP hD hS 0 rfl rfl 1 (by decide) (hts _ (ow_m (k := 5) rfl)) (fun _ h9 => h9) rfl hin rfl (by decide +kernel) rfl rfl (Nat.le_of_ble_eq_true rfl) dX0_init_18 (fun H locs hP hD hS => ?_)
  have hP : va_P (dC, dI) vwCl [(q4036, .inr (0, [.ref q4040, .ref q4041, .null, .int 0])), (q4040, .inl (cyI, 270, .inl (fun _ => 0))), (q4041, .inl (cyI, 31, .inl (fun _ => 0)))] H := hP
  have hD : va_D A [(q4036, .inr (0, [.ref q4040, .ref q4041, .null, .int 0])), (q4040, .inl (cyI, 270, .inl (fun _ => 0))), (q4041, .inl (cyI, 31, .inl (fun _ => 0)))] := hD
  refine lv_aload_n hx hb dX0_init_21 rfl (lv_at hl 0 rfl) ?_
  refine lv_bipush (v := 6) hx hb dX0_init_22 (by decide) ?_
  refine g_newa (a0 := (6, .inl (fun _ => 0))) hx hb (hts _ (ow_m (k := 3) rfl)) rfl hKN hP hD hS hA 1 rfl rfl (fun _ => rfl) (by decide) (by decide) (by decide) (Nat.le_of_ble_eq_true rfl) (Nat.le_of_ble_eq_true rfl) dX0_init_24 (fun q4042 H hP hD hS => ?_)
  have hP : va_P (dC, dI) vwCl [(q4036, .inr (0, [.ref q4040, .ref q4041, .null, .int 0])), (q4040, .inl (cyI, 270, .inl (fun _ => 0))), (q4041, .inl (cyI, 31, .inl (fun _ => 0))), (q4042, .inl (cyI, 6, .inl (fun _ => 0)))] H := hP
  have hD : va_D A [(q4036, .inr (0, [.ref q4040, .ref q4041, .null, .int 0])), (q4040, .inl (cyI, 270, .inl (fun _ => 0))), (q4041, .inl (cyI, 31, .inl (fun _ => 0))), (q4042, .inl (cyI, 6, .inl (fun _ => 0)))] := hD
  refine W.widen (k := 3) (n := 307) (by omega) (by omega) ?_
  refine va_putF (D := (dC, dI)) (ci := 0) (v := .ref q4042) (ty := .array .int) (C := RX0) (T := TX0) (N := 4) hx hb hts hi0 tyX0 tyX0_ok nmX0 hown hK hP hD hS 0 rfl rfl 2 (by decide) (hts _ (ow_m (k := 6) rfl)) (fun _ h9 => h9) rfl hin rfl (by decide +kernel) rfl rfl (Nat.le_of_ble_eq_true rfl) dX0_init_26 (fun H locs hP hD hS => ?_)
  have hP : va_P (dC, dI) vwCl [(q4036, .inr (0, [.ref q4040, .ref q4041, .ref q4042, .int 0])), (q4040, .inl (cyI, 270, .inl (fun _ => 0))), (q4041, .inl (cyI, 31, .inl (fun _ => 0))), (q4042, .inl (cyI, 6, .inl (fun _ => 0)))] H := hP
  have hD : va_D A [(q4036, .inr (0, [.ref q4040, .ref q4041, .ref q4042, .int 0])), (q4040, .inl (cyI, 270, .inl (fun _ => 0))), (q4041, .inl (cyI, 31, .inl (fun _ => 0))), (q4042, .inl (cyI, 6, .inl (fun _ => 0)))] := hD
  exact W.vret hx hb hr (fun t ht hW => ⟨⟨(fun k => match k with | 0 => q4040 | 1 => q4041 | _ => q4042), rfl, trivial, cE.of ht hP hD [0, 1, 2, 3] (by decide) rfl⟩, hS.F ht⟩) hS.2.2 dX0_init_29
def wo_k_X0_clear_v6 : List Cond := [.fieldLink RX0 21 "ReplicaChain$Formula" "length" "I"]
def wq_k_X0_clear_v6 : List Cond := .code yX0_clear cX0_clear 1 none :: (wo_k_X0_clear_v6 ++ (wsX00 ++ []))
theorem gd_k_X0_clear_v6 : Gd wq_k_X0_clear_v6 := gd_c (gd_a (gd_o (by decide +kernel)) (gd_a gd_u gd_0))
abbrev wc_k_X0_clear_v6 (cyB cyI cyJ cyZ cyO : ClassId) (q4036 : Nat) (u4044 : Nat → Nat) : va_W := [(q4036, .inr (0, [.ref (u4044 0), .ref (u4044 1), .ref (u4044 2), .int 0]))]
set_option maxHeartbeats 4000000 in
set_option maxRecDepth 100000 in
theorem k_X0_clear_v6 (l : Launch) (dC : Nat → ClassId) (dI : Nat → Nat → Nat) (cyB cyI cyJ cyZ cyO : ClassId) (q4036 : Nat) (u4044 : Nat → Nat) (sz : Nat) : Met l yX0_clear wq_k_X0_clear_v6 ({ frames := 0, cells := 0, slots := 0, locals := 0 }) (va_Pc [.ref q4036] (cB (dC, dI) (kT cyB cyI cyJ cyZ cyO) (wc_k_X0_clear_v6 cyB cyI cyJ cyZ cyO q4036 u4044) sz)) (va_Qv (fun _ => True) (fun (u : Unit) t => cE (dC, dI) (va_A (wc_k_X0_clear_v6 cyB cyI cyJ cyZ cyO q4036 u4044) sz) ([(q4036, .inr (0, [.ref (u4044 0), .ref (u4044 1), .ref (u4044 2), .int 0]))]) t.heap) (va_A (wc_k_X0_clear_v6 cyB cyI cyJ cyZ cyO q4036 u4044) sz)) 0 0 (va_A (wc_k_X0_clear_v6 cyB cyI cyJ cyZ cyO q4036 u4044) sz) := by
  refine Met.ofW (cc := cX0_clear) (maxL := 1) (ret := none) (by decide) rfl ?_
  intro p e s m args below meth c s₁ B hml hv
  obtain ⟨rfl, hsz, hP, hKN, hD0⟩ := hv
  have hx := B.exec
  have hb := B.bytes
  have hr := B.returns
  have hts := atoms_spec (ws := wq_k_X0_clear_v6) B.pre
  have hown : s.vm.findClass RX0 = some m.cls := findClass_of_methodNamed B.named
  have hlocks := B.notSynchronized
  have hK := hKN.1
  have hfix : CallFix p m c cX0_clear 1 s [.ref q4036].toArray wq_k_X0_clear_v6 RX0 := ⟨hx, hb, hml, hown, hts⟩
  have hi0 : ∀ w ∈ wsX00, w ∈ wq_k_X0_clear_v6 := (sb_c sb_l)
  subst hsz
  have hD := hD0.self (sz := s.heap.size)
  generalize hAe : va_A (wc_k_X0_clear_v6 cyB cyI cyJ cyZ cyO q4036 u4044) s.heap.size = A at hD ⊢
  have hA : ∀ q : Nat, s.heap.size ≤ q → A q := fun q h => by rw [← hAe]; exact Or.inr h
  have hS : va_S A s.heap s.heap [] := va_S.rf
  have hl := lv_entry ([.ref q4036]) (n := 1) (Nat.le_of_ble_eq_true rfl)
  rw [lg_entry_eq]
  generalize (lg_sl ([.ref q4036]) ++ List.replicate (1 - (lg_sl ([.ref q4036])).length) Slot.unset).toArray = ls at hl ⊢
  have hl : lv_has ls 1 [(0, .ref q4036)] := hl
  refine lv_aload_n hx hb dX0_clear_0 rfl (lv_at hl 0 rfl) ?_
  refine lv_iconst (v := 0) hx hb dX0_clear_1 (by decide) ?_
  refine va_put (D := (dC, dI)) (ci := 0) (v := .int 0) (ty := .int) (C := RX0) (T := TX0) (N := 4) hx hb hts hi0 tyX0 tyX0_ok nmX0 hown hK hP hD hS 0 rfl rfl 3 (by decide) (hts _ (ow_m (k := 0) rfl)) (fun _ h9 => h9) rfl (by decide +kernel) rfl rfl (Nat.le_of_ble_eq_true rfl) dX0_clear_2 (fun H locs hP hD hS => ?_)
  have hP : va_P (dC, dI) vwCl [(q4036, .inr (0, [.ref (u4044 0), .ref (u4044 1), .ref (u4044 2), .int 0]))] H := hP
  have hD : va_D A [(q4036, .inr (0, [.ref (u4044 0), .ref (u4044 1), .ref (u4044 2), .int 0]))] := hD
  exact W.vret hx hb hr (fun t ht hW => ⟨⟨(), rfl, trivial, cE.of ht hP hD [0] (by decide) rfl⟩, hS.F ht⟩) hS.2.2 dX0_clear_5
def wo_k_X1_clear_v6 : List Cond := [.fieldLink RX1 25 "ReplicaChain$Plan" "slow" "LReplicaChain$Formula;", .methodLink RX1 32 yX0_clear, .instanceMethod yX0_clear, .selects RX0 yX0_clear yX0_clear, .initialized RX0, .fieldLink RX1 33 "ReplicaChain$Plan" "memberCount" "I", .fieldLink RX1 37 "ReplicaChain$Plan" "nodeCount" "I", .fieldLink RX1 40 "ReplicaChain$Plan" "keyCount" "I", .fieldLink RX1 43 "ReplicaChain$Plan" "units" "I", .fieldLink RX1 46 "ReplicaChain$Plan" "copy" "I", .fieldLink RX1 49 "ReplicaChain$Plan" "loss" "I", .fieldLink RX1 52 "ReplicaChain$Plan" "draw" "I"]
def wq_k_X1_clear_v6 : List Cond := .code yX1_clear cX1_clear 1 none :: (wo_k_X1_clear_v6 ++ (wq_k_X0_clear_v6 ++ (wsX10 ++ [])))
theorem gd_k_X1_clear_v6 : Gd wq_k_X1_clear_v6 := gd_c (gd_a (gd_o (by decide +kernel)) (gd_a gd_k_X0_clear_v6 (gd_a gd_u gd_0)))
abbrev wc_k_X1_clear_v6 (cyB cyI cyJ cyZ cyO : ClassId) (q4032 : Nat) (q4033 : Nat) (q4034 : Nat) (q4035 : Nat) (q4036 : Nat) (u4044 : Nat → Nat) : va_W := [(q4032, .inr (1, [.ref q4033, .ref q4034, .ref q4035, .ref q4036, .int 0, .int 0, .int 0, .int 0, .int 0, .int 0, .int 0])), (q4036, .inr (0, [.ref (u4044 0), .ref (u4044 1), .ref (u4044 2), .int 0]))]
set_option maxHeartbeats 4000000 in
set_option maxRecDepth 100000 in
theorem k_X1_clear_v6 (l : Launch) (dC : Nat → ClassId) (dI : Nat → Nat → Nat) (cyB cyI cyJ cyZ cyO : ClassId) (q4032 : Nat) (q4033 : Nat) (q4034 : Nat) (q4035 : Nat) (q4036 : Nat) (u4044 : Nat → Nat) (sz : Nat) : Met l yX1_clear wq_k_X1_clear_v6 ({ frames := 1, cells := 0, slots := 0, locals := 20 }) (va_Pc [.ref q4032] (cB (dC, dI) (kT cyB cyI cyJ cyZ cyO) (wc_k_X1_clear_v6 cyB cyI cyJ cyZ cyO q4032 q4033 q4034 q4035 q4036 u4044) sz)) (va_Qv (fun _ => True) (fun (u : Unit) t => cE (dC, dI) (va_A (wc_k_X1_clear_v6 cyB cyI cyJ cyZ cyO q4032 q4033 q4034 q4035 q4036 u4044) sz) ([(q4032, .inr (1, [.ref q4033, .ref q4034, .ref q4035, .ref q4036, .int 0, .int 0, .int 0, .int 0, .int 2, .int 0, .int 0])), (q4036, .inr (0, [.ref (u4044 0), .ref (u4044 1), .ref (u4044 2), .int 0]))]) t.heap) (va_A (wc_k_X1_clear_v6 cyB cyI cyJ cyZ cyO q4032 q4033 q4034 q4035 q4036 u4044) sz)) 0 0 (va_A (wc_k_X1_clear_v6 cyB cyI cyJ cyZ cyO q4032 q4033 q4034 q4035 q4036 u4044) sz) := by
  refine Met.ofW (cc := cX1_clear) (maxL := 1) (ret := none) (by decide) rfl ?_
  intro p e s m args below meth c s₁ B hml hv
  obtain ⟨rfl, hsz, hP, hKN, hD0⟩ := hv
  have hx := B.exec
  have hb := B.bytes
  have hr := B.returns
  have hts := atoms_spec (ws := wq_k_X1_clear_v6) B.pre
  have hown : s.vm.findClass RX1 = some m.cls := findClass_of_methodNamed B.named
  have hlocks := B.notSynchronized
  have hK := hKN.1
  have hfix : CallFix p m c cX1_clear 1 s [.ref q4032].toArray wq_k_X1_clear_v6 RX1 := ⟨hx, hb, hml, hown, hts⟩
  have hi1 : ∀ w ∈ wsX10, w ∈ wq_k_X1_clear_v6 := (sb_c (sb_r sb_l))
  subst hsz
  have hD := hD0.self (sz := s.heap.size)
  generalize hAe : va_A (wc_k_X1_clear_v6 cyB cyI cyJ cyZ cyO q4032 q4033 q4034 q4035 q4036 u4044) s.heap.size = A at hD ⊢
  have hA : ∀ q : Nat, s.heap.size ≤ q → A q := fun q h => by rw [← hAe]; exact Or.inr h
  have hS : va_S A s.heap s.heap [] := va_S.rf
  have hl := lv_entry ([.ref q4032]) (n := 1) (Nat.le_of_ble_eq_true rfl)
  rw [lg_entry_eq]
  generalize (lg_sl ([.ref q4032]) ++ List.replicate (1 - (lg_sl ([.ref q4032])).length) Slot.unset).toArray = ls at hl ⊢
  have hl : lv_has ls 1 [(0, .ref q4032)] := hl
  refine lv_aload_n hx hb dX1_clear_0 rfl (lv_at hl 0 rfl) ?_
  refine va_get (D := (dC, dI)) (ci := 1) (v := .ref q4036) (C := RX1) (T := TX1) (N := 11) hx hb hts hi1 hown hK hP 0 rfl rfl 3 (by decide) (hts _ (ow_m (k := 0) rfl)) (fun _ h9 => h9) rfl dX1_clear_1 ?_
  refine gf_v (wr := [(q4032, .inr (1, [.ref q4033, .ref q4034, .ref q4035, .ref q4036, .int 0, .int 0, .int 0, .int 0, .int 0, .int 0, .int 0]))]) (va_runV (As := []) (rest := []) hfix (k_X0_clear_v6 l dC dI cyB cyI cyJ cyZ cyO q4036 u4044 _) (cwV 0 hts (gi_V (ow_m (k := 1) rfl) (ow_m (k := 2) rfl) (ow_m (k := 3) rfl) (ow_m (k := 4) rfl) (sb_c sb_l) gd_k_X0_clear_v6) rfl rfl rfl (by decide +kernel) ⟨Nat.le_of_ble_eq_true rfl, Nat.le_of_ble_eq_true rfl⟩) (g_preV hKN hP hD [1] rfl (by decide) 0 0 rfl rfl) rfl rfl hl.1 rfl (lv_room (Nat.le_of_ble_eq_true rfl)) dX1_clear_4 ⟨Nat.le_of_ble_eq_true rfl, Nat.le_of_ble_eq_true rfl⟩) hP hD hS hA [1] [0] rfl rfl (by decide) (by decide) (fun u4048 H locs qu4048 hP hD hS => ?_)
  have hP : va_P (dC, dI) vwCl [(q4032, .inr (1, [.ref q4033, .ref q4034, .ref q4035, .ref q4036, .int 0, .int 0, .int 0, .int 0, .int 0, .int 0, .int 0])), (q4036, .inr (0, [.ref (u4044 0), .ref (u4044 1), .ref (u4044 2), .int 0]))] H := hP
  have hD : va_D A [(q4032, .inr (1, [.ref q4033, .ref q4034, .ref q4035, .ref q4036, .int 0, .int 0, .int 0, .int 0, .int 0, .int 0, .int 0])), (q4036, .inr (0, [.ref (u4044 0), .ref (u4044 1), .ref (u4044 2), .int 0]))] := hD
  refine lv_aload_n hx hb dX1_clear_7 rfl (lv_at hl 0 rfl) ?_
  refine lv_iconst (v := 0) hx hb dX1_clear_8 (by decide) ?_
  refine va_put (D := (dC, dI)) (ci := 1) (v := .int 0) (ty := .int) (C := RX1) (T := TX1) (N := 11) hx hb hts hi1 tyX1 tyX1_ok nmX1 hown hK hP hD hS 0 rfl rfl 4 (by decide) (hts _ (ow_m (k := 5) rfl)) (fun _ h9 => h9) rfl (by decide +kernel) rfl rfl (Nat.le_of_ble_eq_true rfl) dX1_clear_9 (fun H locs hP hD hS => ?_)
  have hP : va_P (dC, dI) vwCl [(q4032, .inr (1, [.ref q4033, .ref q4034, .ref q4035, .ref q4036, .int 0, .int 0, .int 0, .int 0, .int 0, .int 0, .int 0])), (q4036, .inr (0, [.ref (u4044 0), .ref (u4044 1), .ref (u4044 2), .int 0]))] H := hP
  have hD : va_D A [(q4032, .inr (1, [.ref q4033, .ref q4034, .ref q4035, .ref q4036, .int 0, .int 0, .int 0, .int 0, .int 0, .int 0, .int 0])), (q4036, .inr (0, [.ref (u4044 0), .ref (u4044 1), .ref (u4044 2), .int 0]))] := hD
  refine lv_aload_n hx hb dX1_clear_12 rfl (lv_at hl 0 rfl) ?_
  refine lv_iconst (v := 0) hx hb dX1_clear_13 (by decide) ?_
  refine va_put (D := (dC, dI)) (ci := 1) (v := .int 0) (ty := .int) (C := RX1) (T := TX1) (N := 11) hx hb hts hi1 tyX1 tyX1_ok nmX1 hown hK hP hD hS 0 rfl rfl 5 (by decide) (hts _ (ow_m (k := 6) rfl)) (fun _ h9 => h9) rfl (by decide +kernel) rfl rfl (Nat.le_of_ble_eq_true rfl) dX1_clear_14 (fun H locs hP hD hS => ?_)
  have hP : va_P (dC, dI) vwCl [(q4032, .inr (1, [.ref q4033, .ref q4034, .ref q4035, .ref q4036, .int 0, .int 0, .int 0, .int 0, .int 0, .int 0, .int 0])), (q4036, .inr (0, [.ref (u4044 0), .ref (u4044 1), .ref (u4044 2), .int 0]))] H := hP
  have hD : va_D A [(q4032, .inr (1, [.ref q4033, .ref q4034, .ref q4035, .ref q4036, .int 0, .int 0, .int 0, .int 0, .int 0, .int 0, .int 0])), (q4036, .inr (0, [.ref (u4044 0), .ref (u4044 1), .ref (u4044 2), .int 0]))] := hD
  refine lv_aload_n hx hb dX1_clear_17 rfl (lv_at hl 0 rfl) ?_
  refine lv_iconst (v := 0) hx hb dX1_clear_18 (by decide) ?_
  refine va_put (D := (dC, dI)) (ci := 1) (v := .int 0) (ty := .int) (C := RX1) (T := TX1) (N := 11) hx hb hts hi1 tyX1 tyX1_ok nmX1 hown hK hP hD hS 0 rfl rfl 6 (by decide) (hts _ (ow_m (k := 7) rfl)) (fun _ h9 => h9) rfl (by decide +kernel) rfl rfl (Nat.le_of_ble_eq_true rfl) dX1_clear_19 (fun H locs hP hD hS => ?_)
  have hP : va_P (dC, dI) vwCl [(q4032, .inr (1, [.ref q4033, .ref q4034, .ref q4035, .ref q4036, .int 0, .int 0, .int 0, .int 0, .int 0, .int 0, .int 0])), (q4036, .inr (0, [.ref (u4044 0), .ref (u4044 1), .ref (u4044 2), .int 0]))] H := hP
  have hD : va_D A [(q4032, .inr (1, [.ref q4033, .ref q4034, .ref q4035, .ref q4036, .int 0, .int 0, .int 0, .int 0, .int 0, .int 0, .int 0])), (q4036, .inr (0, [.ref (u4044 0), .ref (u4044 1), .ref (u4044 2), .int 0]))] := hD
  refine lv_aload_n hx hb dX1_clear_22 rfl (lv_at hl 0 rfl) ?_
  refine lv_iconst (v := 0) hx hb dX1_clear_23 (by decide) ?_
  refine va_put (D := (dC, dI)) (ci := 1) (v := .int 0) (ty := .int) (C := RX1) (T := TX1) (N := 11) hx hb hts hi1 tyX1 tyX1_ok nmX1 hown hK hP hD hS 0 rfl rfl 7 (by decide) (hts _ (ow_m (k := 8) rfl)) (fun _ h9 => h9) rfl (by decide +kernel) rfl rfl (Nat.le_of_ble_eq_true rfl) dX1_clear_24 (fun H locs hP hD hS => ?_)
  have hP : va_P (dC, dI) vwCl [(q4032, .inr (1, [.ref q4033, .ref q4034, .ref q4035, .ref q4036, .int 0, .int 0, .int 0, .int 0, .int 0, .int 0, .int 0])), (q4036, .inr (0, [.ref (u4044 0), .ref (u4044 1), .ref (u4044 2), .int 0]))] H := hP
  have hD : va_D A [(q4032, .inr (1, [.ref q4033, .ref q4034, .ref q4035, .ref q4036, .int 0, .int 0, .int 0, .int 0, .int 0, .int 0, .int 0])), (q4036, .inr (0, [.ref (u4044 0), .ref (u4044 1), .ref (u4044 2), .int 0]))] := hD
  refine lv_aload_n hx hb dX1_clear_27 rfl (lv_at hl 0 rfl) ?_
  refine lv_iconst (v := 2) hx hb dX1_clear_28 (by decide) ?_
  refine va_put (D := (dC, dI)) (ci := 1) (v := .int 2) (ty := .int) (C := RX1) (T := TX1) (N := 11) hx hb hts hi1 tyX1 tyX1_ok nmX1 hown hK hP hD hS 0 rfl rfl 8 (by decide) (hts _ (ow_m (k := 9) rfl)) (fun _ h9 => h9) rfl (by decide +kernel) rfl rfl (Nat.le_of_ble_eq_true rfl) dX1_clear_29 (fun H locs hP hD hS => ?_)
  have hP : va_P (dC, dI) vwCl [(q4032, .inr (1, [.ref q4033, .ref q4034, .ref q4035, .ref q4036, .int 0, .int 0, .int 0, .int 0, .int 2, .int 0, .int 0])), (q4036, .inr (0, [.ref (u4044 0), .ref (u4044 1), .ref (u4044 2), .int 0]))] H := hP
  have hD : va_D A [(q4032, .inr (1, [.ref q4033, .ref q4034, .ref q4035, .ref q4036, .int 0, .int 0, .int 0, .int 0, .int 2, .int 0, .int 0])), (q4036, .inr (0, [.ref (u4044 0), .ref (u4044 1), .ref (u4044 2), .int 0]))] := hD
  refine lv_aload_n hx hb dX1_clear_32 rfl (lv_at hl 0 rfl) ?_
  refine lv_iconst (v := 0) hx hb dX1_clear_33 (by decide) ?_
  refine va_put (D := (dC, dI)) (ci := 1) (v := .int 0) (ty := .int) (C := RX1) (T := TX1) (N := 11) hx hb hts hi1 tyX1 tyX1_ok nmX1 hown hK hP hD hS 0 rfl rfl 9 (by decide) (hts _ (ow_m (k := 10) rfl)) (fun _ h9 => h9) rfl (by decide +kernel) rfl rfl (Nat.le_of_ble_eq_true rfl) dX1_clear_34 (fun H locs hP hD hS => ?_)
  have hP : va_P (dC, dI) vwCl [(q4032, .inr (1, [.ref q4033, .ref q4034, .ref q4035, .ref q4036, .int 0, .int 0, .int 0, .int 0, .int 2, .int 0, .int 0])), (q4036, .inr (0, [.ref (u4044 0), .ref (u4044 1), .ref (u4044 2), .int 0]))] H := hP
  have hD : va_D A [(q4032, .inr (1, [.ref q4033, .ref q4034, .ref q4035, .ref q4036, .int 0, .int 0, .int 0, .int 0, .int 2, .int 0, .int 0])), (q4036, .inr (0, [.ref (u4044 0), .ref (u4044 1), .ref (u4044 2), .int 0]))] := hD
  refine lv_aload_n hx hb dX1_clear_37 rfl (lv_at hl 0 rfl) ?_
  refine lv_iconst (v := 0) hx hb dX1_clear_38 (by decide) ?_
  refine va_put (D := (dC, dI)) (ci := 1) (v := .int 0) (ty := .int) (C := RX1) (T := TX1) (N := 11) hx hb hts hi1 tyX1 tyX1_ok nmX1 hown hK hP hD hS 0 rfl rfl 10 (by decide) (hts _ (ow_m (k := 11) rfl)) (fun _ h9 => h9) rfl (by decide +kernel) rfl rfl (Nat.le_of_ble_eq_true rfl) dX1_clear_39 (fun H locs hP hD hS => ?_)
  have hP : va_P (dC, dI) vwCl [(q4032, .inr (1, [.ref q4033, .ref q4034, .ref q4035, .ref q4036, .int 0, .int 0, .int 0, .int 0, .int 2, .int 0, .int 0])), (q4036, .inr (0, [.ref (u4044 0), .ref (u4044 1), .ref (u4044 2), .int 0]))] H := hP
  have hD : va_D A [(q4032, .inr (1, [.ref q4033, .ref q4034, .ref q4035, .ref q4036, .int 0, .int 0, .int 0, .int 0, .int 2, .int 0, .int 0])), (q4036, .inr (0, [.ref (u4044 0), .ref (u4044 1), .ref (u4044 2), .int 0]))] := hD
  exact W.vret hx hb hr (fun t ht hW => ⟨⟨(), rfl, trivial, cE.of ht hP hD [0, 1] (by decide) rfl⟩, hS.F ht⟩) hS.2.2 dX1_clear_42
def wo_k_X0_init_v6 : List Cond := [.methodLink RX0 3 objectInit, .instanceMethod objectInit, .code objectInit ⟨#[0xb1]⟩ 1 none, .arrayClass .int, .fieldLink RX0 11 "ReplicaChain$Formula" "steps" "[I", .fieldLink RX0 15 "ReplicaChain$Formula" "stack" "[I", .fieldLink RX0 18 "ReplicaChain$Formula" "facts" "[I"]
def wq_k_X0_init_v6 : List Cond := .code yX0_init cX0_init 1 none :: (wo_k_X0_init_v6 ++ (wsX00 ++ []))
theorem gd_k_X0_init_v6 : Gd wq_k_X0_init_v6 := gd_c (gd_a (gd_o (by decide +kernel)) (gd_a gd_u gd_0))
abbrev wc_k_X0_init_v6 (cyB cyI cyJ cyZ cyO : ClassId) (q4054 : Nat) : va_W := [(q4054, .inr (0, [.null, .null, .null, .int 0]))]
set_option maxHeartbeats 4000000 in
set_option maxRecDepth 100000 in
theorem k_X0_init_v6 (l : Launch) (dC : Nat → ClassId) (dI : Nat → Nat → Nat) (cyB cyI cyJ cyZ cyO : ClassId) (q4054 : Nat) (sz : Nat) : Met l yX0_init wq_k_X0_init_v6 ({ frames := 1, cells := 3, slots := 307, locals := 20 }) (va_Pc [.ref q4054] (cB (dC, dI) (kT cyB cyI cyJ cyZ cyO) (wc_k_X0_init_v6 cyB cyI cyJ cyZ cyO q4054) sz)) (va_Qv (fun _ => True) (fun (u : Nat → Nat) t => cE (dC, dI) (va_A (wc_k_X0_init_v6 cyB cyI cyJ cyZ cyO q4054) sz) ([(q4054, .inr (0, [.ref (u 0), .ref (u 1), .ref (u 2), .int 0])), (u 0, .inl (cyI, 270, .inl (fun _ => 0))), (u 1, .inl (cyI, 31, .inl (fun _ => 0))), (u 2, .inl (cyI, 6, .inl (fun _ => 0)))]) t.heap) (va_A (wc_k_X0_init_v6 cyB cyI cyJ cyZ cyO q4054) sz)) 3 307 (va_A (wc_k_X0_init_v6 cyB cyI cyJ cyZ cyO q4054) sz) := by
  refine Met.ofW (cc := cX0_init) (maxL := 1) (ret := none) (by decide) rfl ?_
  intro p e s m args below meth c s₁ B hml hv
  obtain ⟨rfl, hsz, hP, hKN, hD0⟩ := hv
  have hx := B.exec
  have hb := B.bytes
  have hr := B.returns
  have hts := atoms_spec (ws := wq_k_X0_init_v6) B.pre
  have hown : s.vm.findClass RX0 = some m.cls := findClass_of_methodNamed B.named
  have hlocks := B.notSynchronized
  have hin : meth.name = "<init>" := (name_of_methodNamed B.named B.method).1
  have hK := hKN.1
  have hfix : CallFix p m c cX0_init 1 s [.ref q4054].toArray wq_k_X0_init_v6 RX0 := ⟨hx, hb, hml, hown, hts⟩
  have hi0 : ∀ w ∈ wsX00, w ∈ wq_k_X0_init_v6 := (sb_c sb_l)
  subst hsz
  have hD := hD0.self (sz := s.heap.size)
  generalize hAe : va_A (wc_k_X0_init_v6 cyB cyI cyJ cyZ cyO q4054) s.heap.size = A at hD ⊢
  have hA : ∀ q : Nat, s.heap.size ≤ q → A q := fun q h => by rw [← hAe]; exact Or.inr h
  have hS : va_S A s.heap s.heap [] := va_S.rf
  have hl := lv_entry ([.ref q4054]) (n := 1) (Nat.le_of_ble_eq_true rfl)
  rw [lg_entry_eq]
  generalize (lg_sl ([.ref q4054]) ++ List.replicate (1 - (lg_sl ([.ref q4054])).length) Slot.unset).toArray = ls at hl ⊢
  have hl : lv_has ls 1 [(0, .ref q4054)] := hl
  refine lv_aload_n hx hb dX0_init_0 rfl (lv_at hl 0 rfl) ?_
  refine W.objInit hx hb hown (hts _ (ow_m (k := 0) rfl)) (hts _ (ow_m (k := 1) rfl)) (hts _ (ow_m (k := 2) rfl)) rfl (by rw [hml]; exact hl.1) rfl dX0_init_1 (Nat.le_of_ble_eq_true rfl) (Nat.le_of_ble_eq_true rfl) ?_
  refine W.eq (g2 := F0 m 4 ls []) rfl ?_
  refine lv_aload_n hx hb dX0_init_4 rfl (lv_at hl 0 rfl) ?_
  refine lv_sipush (v := 270) hx hb dX0_init_5 (by decide) ?_
  refine g_newa (a0 := (270, .inl (fun _ => 0))) hx hb (hts _ (ow_m (k := 3) rfl)) rfl hKN hP hD hS hA 1 rfl rfl (fun _ => rfl) (by decide) (by decide) (by decide) (Nat.le_of_ble_eq_true rfl) (Nat.le_of_ble_eq_true rfl) dX0_init_8 (fun q4058 H hP hD hS => ?_)
  have hP : va_P (dC, dI) vwCl [(q4054, .inr (0, [.null, .null, .null, .int 0])), (q4058, .inl (cyI, 270, .inl (fun _ => 0)))] H := hP
  have hD : va_D A [(q4054, .inr (0, [.null, .null, .null, .int 0])), (q4058, .inl (cyI, 270, .inl (fun _ => 0)))] := hD
  refine W.widen (k := 1) (n := 270) (by omega) (by omega) ?_
  refine va_putF (D := (dC, dI)) (ci := 0) (v := .ref q4058) (ty := .array .int) (C := RX0) (T := TX0) (N := 4) hx hb hts hi0 tyX0 tyX0_ok nmX0 hown hK hP hD hS 0 rfl rfl 0 (by decide) (hts _ (ow_m (k := 4) rfl)) (fun _ h9 => h9) rfl hin rfl (by decide +kernel) rfl rfl (Nat.le_of_ble_eq_true rfl) dX0_init_10 (fun H locs hP hD hS => ?_)
  have hP : va_P (dC, dI) vwCl [(q4054, .inr (0, [.ref q4058, .null, .null, .int 0])), (q4058, .inl (cyI, 270, .inl (fun _ => 0)))] H := hP
  have hD : va_D A [(q4054, .inr (0, [.ref q4058, .null, .null, .int 0])), (q4058, .inl (cyI, 270, .inl (fun _ => 0)))] := hD
  refine lv_aload_n hx hb dX0_init_13 rfl (lv_at hl 0 rfl) ?_
  refine lv_bipush (v := 31) hx hb dX0_init_14 (by decide) ?_
  refine g_newa (a0 := (31, .inl (fun _ => 0))) hx hb (hts _ (ow_m (k := 3) rfl)) rfl hKN hP hD hS hA 1 rfl rfl (fun _ => rfl) (by decide) (by decide) (by decide) (Nat.le_of_ble_eq_true rfl) (Nat.le_of_ble_eq_true rfl) dX0_init_16 (fun q4059 H hP hD hS => ?_)
  have hP : va_P (dC, dI) vwCl [(q4054, .inr (0, [.ref q4058, .null, .null, .int 0])), (q4058, .inl (cyI, 270, .inl (fun _ => 0))), (q4059, .inl (cyI, 31, .inl (fun _ => 0)))] H := hP
  have hD : va_D A [(q4054, .inr (0, [.ref q4058, .null, .null, .int 0])), (q4058, .inl (cyI, 270, .inl (fun _ => 0))), (q4059, .inl (cyI, 31, .inl (fun _ => 0)))] := hD
  refine W.widen (k := 2) (n := 301) (by omega) (by omega) ?_
  refine va_putF (D := (dC, dI)) (ci := 0) (v := .ref q4059) (ty := .array .int) (C := RX0) (T := TX0) (N := 4) hx hb hts hi0 tyX0 tyX0_ok nmX0 hown hK hP hD hS 0 rfl rfl 1 (by decide) (hts _ (ow_m (k := 5) rfl)) (fun _ h9 => h9) rfl hin rfl (by decide +kernel) rfl rfl (Nat.le_of_ble_eq_true rfl) dX0_init_18 (fun H locs hP hD hS => ?_)
  have hP : va_P (dC, dI) vwCl [(q4054, .inr (0, [.ref q4058, .ref q4059, .null, .int 0])), (q4058, .inl (cyI, 270, .inl (fun _ => 0))), (q4059, .inl (cyI, 31, .inl (fun _ => 0)))] H := hP
  have hD : va_D A [(q4054, .inr (0, [.ref q4058, .ref q4059, .null, .int 0])), (q4058, .inl (cyI, 270, .inl (fun _ => 0))), (q4059, .inl (cyI, 31, .inl (fun _ => 0)))] := hD
  refine lv_aload_n hx hb dX0_init_21 rfl (lv_at hl 0 rfl) ?_
  refine lv_bipush (v := 6) hx hb dX0_init_22 (by decide) ?_
  refine g_newa (a0 := (6, .inl (fun _ => 0))) hx hb (hts _ (ow_m (k := 3) rfl)) rfl hKN hP hD hS hA 1 rfl rfl (fun _ => rfl) (by decide) (by decide) (by decide) (Nat.le_of_ble_eq_true rfl) (Nat.le_of_ble_eq_true rfl) dX0_init_24 (fun q4060 H hP hD hS => ?_)
  have hP : va_P (dC, dI) vwCl [(q4054, .inr (0, [.ref q4058, .ref q4059, .null, .int 0])), (q4058, .inl (cyI, 270, .inl (fun _ => 0))), (q4059, .inl (cyI, 31, .inl (fun _ => 0))), (q4060, .inl (cyI, 6, .inl (fun _ => 0)))] H := hP
  have hD : va_D A [(q4054, .inr (0, [.ref q4058, .ref q4059, .null, .int 0])), (q4058, .inl (cyI, 270, .inl (fun _ => 0))), (q4059, .inl (cyI, 31, .inl (fun _ => 0))), (q4060, .inl (cyI, 6, .inl (fun _ => 0)))] := hD
  refine W.widen (k := 3) (n := 307) (by omega) (by omega) ?_
  refine va_putF (D := (dC, dI)) (ci := 0) (v := .ref q4060) (ty := .array .int) (C := RX0) (T := TX0) (N := 4) hx hb hts hi0 tyX0 tyX0_ok nmX0 hown hK hP hD hS 0 rfl rfl 2 (by decide) (hts _ (ow_m (k := 6) rfl)) (fun _ h9 => h9) rfl hin rfl (by decide +kernel) rfl rfl (Nat.le_of_ble_eq_true rfl) dX0_init_26 (fun H locs hP hD hS => ?_)
  have hP : va_P (dC, dI) vwCl [(q4054, .inr (0, [.ref q4058, .ref q4059, .ref q4060, .int 0])), (q4058, .inl (cyI, 270, .inl (fun _ => 0))), (q4059, .inl (cyI, 31, .inl (fun _ => 0))), (q4060, .inl (cyI, 6, .inl (fun _ => 0)))] H := hP
  have hD : va_D A [(q4054, .inr (0, [.ref q4058, .ref q4059, .ref q4060, .int 0])), (q4058, .inl (cyI, 270, .inl (fun _ => 0))), (q4059, .inl (cyI, 31, .inl (fun _ => 0))), (q4060, .inl (cyI, 6, .inl (fun _ => 0)))] := hD
  exact W.vret hx hb hr (fun t ht hW => ⟨⟨(fun k => match k with | 0 => q4058 | 1 => q4059 | _ => q4060), rfl, trivial, cE.of ht hP hD [0, 1, 2, 3] (by decide) rfl⟩, hS.F ht⟩) hS.2.2 dX0_init_29
