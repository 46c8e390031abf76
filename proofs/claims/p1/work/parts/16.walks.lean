def wo_k_X7_traffic : List Cond := [.methodLink RX7 313 yX7_lots, .instanceMethod yX7_lots, .selects RX7 yX7_lots yX7_lots, .initialized RX7]
def wq_k_X7_traffic : List Cond := .code yX7_traffic cX7_traffic 3 (some .int) :: (wo_k_X7_traffic ++ (wq_k_X7_lots_v5 ++ []))
theorem gd_k_X7_traffic : Gd wq_k_X7_traffic := gd_c (gd_a (gd_o (by decide +kernel)) (gd_a gd_k_X7_lots_v5 gd_0))
abbrev wc_k_X7_traffic (cyB cyI cyJ cyZ cyO : ClassId) (h1 : Nat) (md : Nat → Nat) (g : Nat → Int32) : va_W := [(h1, .inr (7, [.ref (md 0), .ref (md 1), .int 0, .int 0, .int 0, .int (-1), .int 0, .int 0, .int 0, .int 0, .long 0, .ref (md 11), .ref (md 12), .ref (md 13), .ref (md 14), .ref (md 15), .ref (md 16), .ref (md 17), .ref (md 18), .ref (md 19), .ref (md 20), .ref (md 21), .ref (md 22), .ref (md 23), .ref (md 24), .ref (md 25), .ref (md 26), .ref (md 27), .ref (md 28), .int 0, .int 0, .int 0, .int 0, .int 0, .int 0, .int 0, .int 0, .int 0, .int 0, .int 0, .ref (md 40), .ref (md 41), .int 0, .int 0, .ref (md 44), .int 0, .int 0, .ref (md 47), .ref (md 48), .int 0, .ref (md 50), .ref (md 51), .ref (md 52), .ref (md 53), .ref (md 54), .int 0, .int 0, .ref (md 57), .ref (md 58)])), (md 40, .inl (cyI, 520, .inl g))]
set_option maxHeartbeats 4000000 in
set_option maxRecDepth 100000 in
theorem k_X7_traffic (l : Launch) (dC : Nat → ClassId) (dI : Nat → Nat → Nat) (cyB cyI cyJ cyZ cyO : ClassId) (h1 : Nat) (md : Nat → Nat) (g : Nat → Int32) (sz : Nat) (hg : AllZ g) : Met l yX7_traffic wq_k_X7_traffic ({ frames := 1, cells := 0, slots := 0, locals := 20 }) (va_Pc [.ref h1] (cB (dC, dI) (kT cyB cyI cyJ cyZ cyO) (wc_k_X7_traffic cyB cyI cyJ cyZ cyO h1 md g) sz)) (va_Qi (fun (r : Int32) _ => r = 0) (fun (u : Unit) t => cE (dC, dI) (va_A (wc_k_X7_traffic cyB cyI cyJ cyZ cyO h1 md g) sz) ([(h1, .inr (7, [.ref (md 0), .ref (md 1), .int 0, .int 0, .int 0, .int (-1), .int 0, .int 0, .int 0, .int 0, .long 0, .ref (md 11), .ref (md 12), .ref (md 13), .ref (md 14), .ref (md 15), .ref (md 16), .ref (md 17), .ref (md 18), .ref (md 19), .ref (md 20), .ref (md 21), .ref (md 22), .ref (md 23), .ref (md 24), .ref (md 25), .ref (md 26), .ref (md 27), .ref (md 28), .int 0, .int 0, .int 0, .int 0, .int 0, .int 0, .int 0, .int 0, .int 0, .int 0, .int 0, .ref (md 40), .ref (md 41), .int 0, .int 0, .ref (md 44), .int 0, .int 0, .ref (md 47), .ref (md 48), .int 0, .ref (md 50), .ref (md 51), .ref (md 52), .ref (md 53), .ref (md 54), .int 0, .int 0, .ref (md 57), .ref (md 58)])), (md 40, .inl (cyI, 520, .inl g))]) t.heap) (va_A (wc_k_X7_traffic cyB cyI cyJ cyZ cyO h1 md g) sz)) 0 0 (va_A (wc_k_X7_traffic cyB cyI cyJ cyZ cyO h1 md g) sz) := by
  refine Met.ofW (cc := cX7_traffic) (maxL := 3) (ret := (some .int)) (by decide) rfl ?_
  intro p e s m args below meth c s₁ B hml hv
  obtain ⟨rfl, hsz, hP, hKN, hD0⟩ := hv
  have hx := B.exec
  have hb := B.bytes
  have hr := B.returns
  have hts := atoms_spec (ws := wq_k_X7_traffic) B.pre
  have hown : s.vm.findClass RX7 = some m.cls := findClass_of_methodNamed B.named
  have hlocks := B.notSynchronized
  have hK := hKN.1
  have hfix : CallFix p m c cX7_traffic 3 s [.ref h1].toArray wq_k_X7_traffic RX7 := ⟨hx, hb, hml, hown, hts⟩
  subst hsz
  have hD := hD0.self (sz := s.heap.size)
  generalize hAe : va_A (wc_k_X7_traffic cyB cyI cyJ cyZ cyO h1 md g) s.heap.size = A at hD ⊢
  have hA : ∀ q : Nat, s.heap.size ≤ q → A q := fun q h => by rw [← hAe]; exact Or.inr h
  have hS : va_S A s.heap s.heap [] := va_S.rf
  have hl := lv_entry ([.ref h1]) (n := 3) (Nat.le_of_ble_eq_true rfl)
  rw [lg_entry_eq]
  generalize (lg_sl ([.ref h1]) ++ List.replicate (3 - (lg_sl ([.ref h1])).length) Slot.unset).toArray = ls at hl ⊢
  have hl : lv_has ls 3 [(0, .ref h1)] := hl
  refine lv_iconst (v := 0) hx hb dX7_traffic_0 (by decide) ?_
  refine lv_istore_n (lv' := [(1, .int 0), (0, .ref h1)]) hx hb dX7_traffic_1 rfl hl (by decide) rfl (fun ls hl => ?_)
  refine lv_iconst (v := 0) hx hb dX7_traffic_2 (by decide) ?_
  refine lv_istore_n (lv' := [(2, .int 0), (1, .int 0), (0, .ref h1)]) hx hb dX7_traffic_3 rfl hl (by decide) rfl (fun ls hl => ?_)
  refine lv_iload_n hx hb dX7_traffic_4 rfl (lv_at hl 0 rfl) ?_
  refine lv_iconst (v := 1) hx hb dX7_traffic_5 (by decide) ?_
  refine lv_iadd hx hb dX7_traffic_6 ?_
  refine tp_c (w := 1) (by decide) ?_
  refine lv_aload_n hx hb dX7_traffic_7 rfl (lv_at hl 2 rfl) ?_
  refine gf_i (wr := []) (va_runV (As := []) (rest := [.int 1]) hfix (k_X7_lots_v5 l dC dI cyB cyI cyJ cyZ cyO h1 md g _ hg) (cwV 0 hts (gi_V (ow_m (k := 0) rfl) (ow_m (k := 1) rfl) (ow_m (k := 2) rfl) (ow_m (k := 3) rfl) (sb_c sb_l) gd_k_X7_lots_v5) rfl rfl rfl (by decide +kernel) ⟨Nat.le_of_ble_eq_true rfl, Nat.le_of_ble_eq_true rfl⟩) (g_preV hKN hP hD [0, 1] rfl (by decide) 0 7 rfl rfl) rfl rfl hl.1 rfl (lv_room (Nat.le_of_ble_eq_true rfl)) dX7_traffic_8 ⟨Nat.le_of_ble_eq_true rfl, Nat.le_of_ble_eq_true rfl⟩) hP hD hS hA [0, 1] [] rfl rfl (by decide) (by decide) (fun r2437 u2438 H locs qu2438 hP hD hS => ?_)
  have hP : va_P (dC, dI) vwCl [(h1, .inr (7, [.ref (md 0), .ref (md 1), .int 0, .int 0, .int 0, .int (-1), .int 0, .int 0, .int 0, .int 0, .long 0, .ref (md 11), .ref (md 12), .ref (md 13), .ref (md 14), .ref (md 15), .ref (md 16), .ref (md 17), .ref (md 18), .ref (md 19), .ref (md 20), .ref (md 21), .ref (md 22), .ref (md 23), .ref (md 24), .ref (md 25), .ref (md 26), .ref (md 27), .ref (md 28), .int 0, .int 0, .int 0, .int 0, .int 0, .int 0, .int 0, .int 0, .int 0, .int 0, .int 0, .ref (md 40), .ref (md 41), .int 0, .int 0, .ref (md 44), .int 0, .int 0, .ref (md 47), .ref (md 48), .int 0, .ref (md 50), .ref (md 51), .ref (md 52), .ref (md 53), .ref (md 54), .int 0, .int 0, .ref (md 57), .ref (md 58)])), (md 40, .inl (cyI, 520, .inl g))] H := hP
  have hD : va_D A [(h1, .inr (7, [.ref (md 0), .ref (md 1), .int 0, .int 0, .int 0, .int (-1), .int 0, .int 0, .int 0, .int 0, .long 0, .ref (md 11), .ref (md 12), .ref (md 13), .ref (md 14), .ref (md 15), .ref (md 16), .ref (md 17), .ref (md 18), .ref (md 19), .ref (md 20), .ref (md 21), .ref (md 22), .ref (md 23), .ref (md 24), .ref (md 25), .ref (md 26), .ref (md 27), .ref (md 28), .int 0, .int 0, .int 0, .int 0, .int 0, .int 0, .int 0, .int 0, .int 0, .int 0, .int 0, .ref (md 40), .ref (md 41), .int 0, .int 0, .ref (md 44), .int 0, .int 0, .ref (md 47), .ref (md 48), .int 0, .ref (md 50), .ref (md 51), .ref (md 52), .ref (md 53), .ref (md 54), .int 0, .int 0, .ref (md 57), .ref (md 58)])), (md 40, .inl (cyI, 520, .inl g))] := hD
  refine tp_c (w := 0) qu2438 ?_
  refine lv_icmp_ge (tgt := 36) hx hb dX7_traffic_11 (by decide) (fun _ => ?_) (fun c2439 => absurd (by decide) c2439)
  refine lv_iload_n hx hb dX7_traffic_36 rfl (lv_at hl 1 rfl) ?_
  exact W.iret (v := 0) hx hb hr (fun t ht hW => ⟨⟨0, (), rfl, rfl, cE.of ht hP hD [0, 1] (by decide) rfl⟩, hS.F ht⟩) hS.2.2 dX7_traffic_37
def wo_k_X7_bringBack : List Cond := [.fieldLink RX7 76 "ReplicaChainModel" "all" "[I", .fieldLink RX7 79 "ReplicaChainModel" "kept" "[I"]
def wq_k_X7_bringBack : List Cond := .code yX7_bringBack cX7_bringBack 2 none :: (wo_k_X7_bringBack ++ (wsX70 ++ []))
theorem gd_k_X7_bringBack : Gd wq_k_X7_bringBack := gd_c (gd_a (gd_o (by decide +kernel)) (gd_a gd_u gd_0))
abbrev wc_k_X7_bringBack (cyB cyI cyJ cyZ cyO : ClassId) (md : Nat → Nat) (u2432 : Nat → Nat → Int32) (h1 : Nat) (g : Nat → Int32) : va_W := [(md 41, .inl (cyI, 520, .inl (u2432 0))), (h1, .inr (7, [.ref (md 0), .ref (md 1), .int 0, .int 0, .int 0, .int (-1), .int 0, .int 0, .int 0, .int 0, .long 0, .ref (md 11), .ref (md 12), .ref (md 13), .ref (md 14), .ref (md 15), .ref (md 16), .ref (md 17), .ref (md 18), .ref (md 19), .ref (md 20), .ref (md 21), .ref (md 22), .ref (md 23), .ref (md 24), .ref (md 25), .ref (md 26), .ref (md 27), .ref (md 28), .int 0, .int 0, .int 0, .int 0, .int 0, .int 0, .int 0, .int 0, .int 0, .int 0, .int 0, .ref (md 40), .ref (md 41), .int 0, .int 0, .ref (md 44), .int 0, .int 0, .ref (md 47), .ref (md 48), .int 0, .ref (md 50), .ref (md 51), .ref (md 52), .ref (md 53), .ref (md 54), .int 0, .int 0, .ref (md 57), .ref (md 58)])), (md 40, .inl (cyI, 520, .inl g))]
set_option maxHeartbeats 4000000 in
set_option maxRecDepth 100000 in
theorem k_X7_bringBack (l : Launch) (dC : Nat → ClassId) (dI : Nat → Nat → Nat) (cyB cyI cyJ cyZ cyO : ClassId) (md : Nat → Nat) (u2432 : Nat → Nat → Int32) (h1 : Nat) (g : Nat → Int32) (sz : Nat) (hg : AllZ g) : Met l yX7_bringBack wq_k_X7_bringBack ({ frames := 0, cells := 0, slots := 0, locals := 0 }) (va_Pc [.ref h1] (cB (dC, dI) (kT cyB cyI cyJ cyZ cyO) (wc_k_X7_bringBack cyB cyI cyJ cyZ cyO md u2432 h1 g) sz)) (va_Qv (fun _ => True) (fun (u : Nat → Nat → Int32) t => cE (dC, dI) (va_A (wc_k_X7_bringBack cyB cyI cyJ cyZ cyO md u2432 h1 g) sz) ([(md 41, .inl (cyI, 520, .inl (u2432 0))), (h1, .inr (7, [.ref (md 0), .ref (md 1), .int 0, .int 0, .int 0, .int (-1), .int 0, .int 0, .int 0, .int 0, .long 0, .ref (md 11), .ref (md 12), .ref (md 13), .ref (md 14), .ref (md 15), .ref (md 16), .ref (md 17), .ref (md 18), .ref (md 19), .ref (md 20), .ref (md 21), .ref (md 22), .ref (md 23), .ref (md 24), .ref (md 25), .ref (md 26), .ref (md 27), .ref (md 28), .int 0, .int 0, .int 0, .int 0, .int 0, .int 0, .int 0, .int 0, .int 0, .int 0, .int 0, .ref (md 40), .ref (md 41), .int 0, .int 0, .ref (md 44), .int 0, .int 0, .ref (md 47), .ref (md 48), .int 0, .ref (md 50), .ref (md 51), .ref (md 52), .ref (md 53), .ref (md 54), .int 0, .int 0, .ref (md 57), .ref (md 58)])), (md 40, .inl (cyI, 520, .inl (u 0)))]) t.heap) (va_A (wc_k_X7_bringBack cyB cyI cyJ cyZ cyO md u2432 h1 g) sz)) 0 0 (va_A (wc_k_X7_bringBack cyB cyI cyJ cyZ cyO md u2432 h1 g) sz) := by
  refine Met.ofW (cc := cX7_bringBack) (maxL := 2) (ret := none) (by decide) rfl ?_
  intro p e s m args below meth c s₁ B hml hv
  obtain ⟨rfl, hsz, hP, hKN, hD0⟩ := hv
  have hx := B.exec
  have hb := B.bytes
  have hr := B.returns
  have hts := atoms_spec (ws := wq_k_X7_bringBack) B.pre
  have hown : s.vm.findClass RX7 = some m.cls := findClass_of_methodNamed B.named
  have hlocks := B.notSynchronized
  have hK := hKN.1
  have hfix : CallFix p m c cX7_bringBack 2 s [.ref h1].toArray wq_k_X7_bringBack RX7 := ⟨hx, hb, hml, hown, hts⟩
  have hi7 : ∀ w ∈ wsX70, w ∈ wq_k_X7_bringBack := (sb_c sb_l)
  subst hsz
  have hD := hD0.self (sz := s.heap.size)
  generalize hAe : va_A (wc_k_X7_bringBack cyB cyI cyJ cyZ cyO md u2432 h1 g) s.heap.size = A at hD ⊢
  have hA : ∀ q : Nat, s.heap.size ≤ q → A q := fun q h => by rw [← hAe]; exact Or.inr h
  have hS : va_S A s.heap s.heap [] := va_S.rf
  have hl := lv_entry ([.ref h1]) (n := 2) (Nat.le_of_ble_eq_true rfl)
  rw [lg_entry_eq]
  generalize (lg_sl ([.ref h1]) ++ List.replicate (2 - (lg_sl ([.ref h1])).length) Slot.unset).toArray = ls at hl ⊢
  have hl : lv_has ls 2 [(0, .ref h1)] := hl
  refine lv_iconst (v := 0) hx hb dX7_bringBack_0 (by decide) ?_
  refine lv_istore_n (lv' := [(1, .int 0), (0, .ref h1)]) hx hb dX7_bringBack_1 rfl hl (by decide) rfl (fun ls hl => ?_)
  refine w_gen (fun H locs ls hP hS hl => ?_) hP hS hl
  obtain ⟨k, hk, hl2⟩ : ∃ k : Nat, k + 520 = 520 ∧ lv_has ls 2 [(1, .int (nI k)), (0, .ref h1)] := ⟨0, Nat.zero_add _, hl⟩
  obtain ⟨n, hkn⟩ : ∃ n : Nat, k + n = 520 := ⟨520, hk⟩
  obtain ⟨f2449, hP2, hD2⟩ : ∃ (f2449 : Nat → Int32), va_P (dC, dI) vwCl [(md 41, .inl (cyI, 520, .inl (u2432 0))), (h1, .inr (7, [.ref (md 0), .ref (md 1), .int 0, .int 0, .int 0, .int (-1), .int 0, .int 0, .int 0, .int 0, .long 0, .ref (md 11), .ref (md 12), .ref (md 13), .ref (md 14), .ref (md 15), .ref (md 16), .ref (md 17), .ref (md 18), .ref (md 19), .ref (md 20), .ref (md 21), .ref (md 22), .ref (md 23), .ref (md 24), .ref (md 25), .ref (md 26), .ref (md 27), .ref (md 28), .int 0, .int 0, .int 0, .int 0, .int 0, .int 0, .int 0, .int 0, .int 0, .int 0, .int 0, .ref (md 40), .ref (md 41), .int 0, .int 0, .ref (md 44), .int 0, .int 0, .ref (md 47), .ref (md 48), .int 0, .ref (md 50), .ref (md 51), .ref (md 52), .ref (md 53), .ref (md 54), .int 0, .int 0, .ref (md 57), .ref (md 58)])), (md 40, .inl (cyI, 520, .inl f2449))] H ∧ va_D A [(md 41, .inl (cyI, 520, .inl (u2432 0))), (h1, .inr (7, [.ref (md 0), .ref (md 1), .int 0, .int 0, .int 0, .int (-1), .int 0, .int 0, .int 0, .int 0, .long 0, .ref (md 11), .ref (md 12), .ref (md 13), .ref (md 14), .ref (md 15), .ref (md 16), .ref (md 17), .ref (md 18), .ref (md 19), .ref (md 20), .ref (md 21), .ref (md 22), .ref (md 23), .ref (md 24), .ref (md 25), .ref (md 26), .ref (md 27), .ref (md 28), .int 0, .int 0, .int 0, .int 0, .int 0, .int 0, .int 0, .int 0, .int 0, .int 0, .int 0, .ref (md 40), .ref (md 41), .int 0, .int 0, .ref (md 44), .int 0, .int 0, .ref (md 47), .ref (md 48), .int 0, .ref (md 50), .ref (md 51), .ref (md 52), .ref (md 53), .ref (md 54), .int 0, .int 0, .ref (md 57), .ref (md 58)])), (md 40, .inl (cyI, 520, .inl f2449))] := ⟨_, hP, hD⟩
  clear hk hP hl
  have hP := hP2
  have hD := hD2
  have hl := hl2
  clear hP2 hD2 hl2
  induction n generalizing k f2449 H locs ls with
  | zero =>
    obtain rfl : k = 520 := by omega
    refine lv_iload_n hx hb dX7_bringBack_2 rfl (lv_at hl 0 rfl) ?_
    refine lv_sipush (v := 520) hx hb dX7_bringBack_3 (by decide) ?_
    refine lv_icmp_ge (tgt := 27) hx hb dX7_bringBack_6 (by decide) (fun _ => ?_) (fun c2450 => absurd (by decide) c2450)
    exact W.vret hx hb hr (fun t ht hW => ⟨⟨(fun _ => f2449), rfl, trivial, cE.of ht hP hD [0, 1, 2] (by decide) rfl⟩, hS.F ht⟩) hS.2.2 dX7_bringBack_27
  | succ n ih =>
    refine lv_iload_n hx hb dX7_bringBack_2 rfl (lv_at hl 0 rfl) ?_
    refine lv_sipush (v := 520) hx hb dX7_bringBack_3 (by decide) ?_
    refine lv_icmp_ge (tgt := 27) hx hb dX7_bringBack_6 (by decide) (fun c2451 => ?_) (fun c2451 => ?_)
    · have c2451 := i_le (a := 520) (b := (k : Int)) c2451 (by decide) (nI_toInt (by omega))
      exfalso; omega
    · have c2451 := i_nle (a := 520) (b := (k : Int)) c2451 (by decide) (nI_toInt (by omega))
      refine lv_aload_n hx hb dX7_bringBack_9 rfl (lv_at hl 1 rfl) ?_
      refine va_get (D := (dC, dI)) (ci := 7) (v := .ref (md 40)) (C := RX7) (T := TX7) (N := 59) hx hb hts hi7 hown hK hP 1 rfl rfl 40 (by decide) (hts _ (ow_m (k := 0) rfl)) (fun _ h9 => h9) rfl dX7_bringBack_10 ?_
      refine lv_iload_n hx hb dX7_bringBack_13 rfl (lv_at hl 0 rfl) ?_
      refine lv_aload_n hx hb dX7_bringBack_14 rfl (lv_at hl 1 rfl) ?_
      refine va_get (D := (dC, dI)) (ci := 7) (v := .ref (md 41)) (C := RX7) (T := TX7) (N := 59) hx hb hts hi7 hown hK hP 1 rfl rfl 41 (by decide) (hts _ (ow_m (k := 1) rfl)) (fun _ h9 => h9) rfl dX7_bringBack_15 ?_
      refine lv_iload_n hx hb dX7_bringBack_18 rfl (lv_at hl 0 rfl) ?_
      refine va_iald hx hb hK hP 0 1 rfl rfl (vp_i (nI_toInt (by omega)) (by omega) (by omega)) dX7_bringBack_19 ?_
      refine lv_topi (fun z2452 ez2452 => ?_)
      refine va_iast hx hb hK hP hD hS 2 1 rfl rfl (vp_i (nI_toInt (by omega)) (by omega) (by omega)) dX7_bringBack_20 (fun H locs hP hD hS => ?_)
      have hP : va_P (dC, dI) vwCl [(md 41, .inl (cyI, 520, .inl (u2432 0))), (h1, .inr (7, [.ref (md 0), .ref (md 1), .int 0, .int 0, .int 0, .int (-1), .int 0, .int 0, .int 0, .int 0, .long 0, .ref (md 11), .ref (md 12), .ref (md 13), .ref (md 14), .ref (md 15), .ref (md 16), .ref (md 17), .ref (md 18), .ref (md 19), .ref (md 20), .ref (md 21), .ref (md 22), .ref (md 23), .ref (md 24), .ref (md 25), .ref (md 26), .ref (md 27), .ref (md 28), .int 0, .int 0, .int 0, .int 0, .int 0, .int 0, .int 0, .int 0, .int 0, .int 0, .int 0, .ref (md 40), .ref (md 41), .int 0, .int 0, .ref (md 44), .int 0, .int 0, .ref (md 47), .ref (md 48), .int 0, .ref (md 50), .ref (md 51), .ref (md 52), .ref (md 53), .ref (md 54), .int 0, .int 0, .ref (md 57), .ref (md 58)])), (md 40, .inl (cyI, 520, .inl (upd f2449 (nI k).toNatClampNeg z2452)))] H := hP
      have hD : va_D A [(md 41, .inl (cyI, 520, .inl (u2432 0))), (h1, .inr (7, [.ref (md 0), .ref (md 1), .int 0, .int 0, .int 0, .int (-1), .int 0, .int 0, .int 0, .int 0, .long 0, .ref (md 11), .ref (md 12), .ref (md 13), .ref (md 14), .ref (md 15), .ref (md 16), .ref (md 17), .ref (md 18), .ref (md 19), .ref (md 20), .ref (md 21), .ref (md 22), .ref (md 23), .ref (md 24), .ref (md 25), .ref (md 26), .ref (md 27), .ref (md 28), .int 0, .int 0, .int 0, .int 0, .int 0, .int 0, .int 0, .int 0, .int 0, .int 0, .int 0, .ref (md 40), .ref (md 41), .int 0, .int 0, .ref (md 44), .int 0, .int 0, .ref (md 47), .ref (md 48), .int 0, .ref (md 50), .ref (md 51), .ref (md 52), .ref (md 53), .ref (md 54), .int 0, .int 0, .ref (md 57), .ref (md 58)])), (md 40, .inl (cyI, 520, .inl (upd f2449 (nI k).toNatClampNeg z2452)))] := hD
      generalize upd f2449 (nI k).toNatClampNeg z2452 = f2453 at hP hD
      refine lv_iinc (v := nI (k + 1)) (lv' := [(1, .int (nI (k + 1))), (0, .ref h1)]) hx hb dX7_bringBack_21 hl (k := 0) rfl (nI_1 k) (by decide) rfl (fun ls hl => ?_)
      refine lv_goto (tgt := 2) hx hb dX7_bringBack_24 (by decide) ?_
      have hl := lv_sub (l' := [(1, .int (nI (k + 1))), (0, .ref h1)]) hl [0, 1] rfl
      apply ih (k := k + 1) (f2449 := f2453) <;> first | assumption | omega
def wo_k_X7_bringBack_v2 : List Cond := [.fieldLink RX7 76 "ReplicaChainModel" "all" "[I", .fieldLink RX7 79 "ReplicaChainModel" "kept" "[I"]
def wq_k_X7_bringBack_v2 : List Cond := .code yX7_bringBack cX7_bringBack 2 none :: (wo_k_X7_bringBack_v2 ++ (wsX70 ++ []))
theorem gd_k_X7_bringBack_v2 : Gd wq_k_X7_bringBack_v2 := gd_c (gd_a (gd_o (by decide +kernel)) (gd_a gd_u gd_0))
abbrev wc_k_X7_bringBack_v2 (cyB cyI cyJ cyZ cyO : ClassId) (md : Nat → Nat) (u2462 : Nat → Nat → Int32) (h1 : Nat) (g : Nat → Int32) : va_W := [(md 41, .inl (cyI, 520, .inl (u2462 0))), (h1, .inr (7, [.ref (md 0), .ref (md 1), .int 0, .int 0, .int 0, .int (-1), .int 0, .int 0, .int 0, .int 0, .long 0, .ref (md 11), .ref (md 12), .ref (md 13), .ref (md 14), .ref (md 15), .ref (md 16), .ref (md 17), .ref (md 18), .ref (md 19), .ref (md 20), .ref (md 21), .ref (md 22), .ref (md 23), .ref (md 24), .ref (md 25), .ref (md 26), .ref (md 27), .ref (md 28), .int 0, .int 0, .int 0, .int 0, .int 0, .int 0, .int 0, .int 0, .int 0, .int 0, .int 0, .ref (md 40), .ref (md 41), .int 0, .int 0, .ref (md 44), .int 0, .int 0, .ref (md 47), .ref (md 48), .int 0, .ref (md 50), .ref (md 51), .ref (md 52), .ref (md 53), .ref (md 54), .int 0, .int 0, .ref (md 57), .ref (md 58)])), (md 40, .inl (cyI, 520, .inl g))]
set_option maxHeartbeats 4000000 in
set_option maxRecDepth 100000 in
theorem k_X7_bringBack_v2 (l : Launch) (dC : Nat → ClassId) (dI : Nat → Nat → Nat) (cyB cyI cyJ cyZ cyO : ClassId) (md : Nat → Nat) (u2462 : Nat → Nat → Int32) (h1 : Nat) (g : Nat → Int32) (sz : Nat) (hg : AllZ g) : Met l yX7_bringBack wq_k_X7_bringBack_v2 ({ frames := 0, cells := 0, slots := 0, locals := 0 }) (va_Pc [.ref h1] (cB (dC, dI) (kT cyB cyI cyJ cyZ cyO) (wc_k_X7_bringBack_v2 cyB cyI cyJ cyZ cyO md u2462 h1 g) sz)) (va_Qv (fun _ => True) (fun (u : Nat → Nat → Int32) t => cE (dC, dI) (va_A (wc_k_X7_bringBack_v2 cyB cyI cyJ cyZ cyO md u2462 h1 g) sz) ([(md 41, .inl (cyI, 520, .inl (u2462 0))), (h1, .inr (7, [.ref (md 0), .ref (md 1), .int 0, .int 0, .int 0, .int (-1), .int 0, .int 0, .int 0, .int 0, .long 0, .ref (md 11), .ref (md 12), .ref (md 13), .ref (md 14), .ref (md 15), .ref (md 16), .ref (md 17), .ref (md 18), .ref (md 19), .ref (md 20), .ref (md 21), .ref (md 22), .ref (md 23), .ref (md 24), .ref (md 25), .ref (md 26), .ref (md 27), .ref (md 28), .int 0, .int 0, .int 0, .int 0, .int 0, .int 0, .int 0, .int 0, .int 0, .int 0, .int 0, .ref (md 40), .ref (md 41), .int 0, .int 0, .ref (md 44), .int 0, .int 0, .ref (md 47), .ref (md 48), .int 0, .ref (md 50), .ref (md 51), .ref (md 52), .ref (md 53), .ref (md 54), .int 0, .int 0, .ref (md 57), .ref (md 58)])), (md 40, .inl (cyI, 520, .inl (u 0)))]) t.heap) (va_A (wc_k_X7_bringBack_v2 cyB cyI cyJ cyZ cyO md u2462 h1 g) sz)) 0 0 (va_A (wc_k_X7_bringBack_v2 cyB cyI cyJ cyZ cyO md u2462 h1 g) sz) := by
  refine Met.ofW (cc := cX7_bringBack) (maxL := 2) (ret := none) (by decide) rfl ?_
  intro p e s m args below meth c s₁ B hml hv
  obtain ⟨rfl, hsz, hP, hKN, hD0⟩ := hv
  have hx := B.exec
  have hb := B.bytes
  have hr := B.returns
  have hts := atoms_spec (ws := wq_k_X7_bringBack_v2) B.pre
  have hown : s.vm.findClass RX7 = some m.cls := findClass_of_methodNamed B.named
  have hlocks := B.notSynchronized
  have hK := hKN.1
  have hfix : CallFix p m c cX7_bringBack 2 s [.ref h1].toArray wq_k_X7_bringBack_v2 RX7 := ⟨hx, hb, hml, hown, hts⟩
  have hi7 : ∀ w ∈ wsX70, w ∈ wq_k_X7_bringBack_v2 := (sb_c sb_l)
  subst hsz
  have hD := hD0.self (sz := s.heap.size)
  generalize hAe : va_A (wc_k_X7_bringBack_v2 cyB cyI cyJ cyZ cyO md u2462 h1 g) s.heap.size = A at hD ⊢
  have hA : ∀ q : Nat, s.heap.size ≤ q → A q := fun q h => by rw [← hAe]; exact Or.inr h
  have hS : va_S A s.heap s.heap [] := va_S.rf
  have hl := lv_entry ([.ref h1]) (n := 2) (Nat.le_of_ble_eq_true rfl)
  rw [lg_entry_eq]
  generalize (lg_sl ([.ref h1]) ++ List.replicate (2 - (lg_sl ([.ref h1])).length) Slot.unset).toArray = ls at hl ⊢
  have hl : lv_has ls 2 [(0, .ref h1)] := hl
  refine lv_iconst (v := 0) hx hb dX7_bringBack_0 (by decide) ?_
  refine lv_istore_n (lv' := [(1, .int 0), (0, .ref h1)]) hx hb dX7_bringBack_1 rfl hl (by decide) rfl (fun ls hl => ?_)
  refine w_gen (fun H locs ls hP hS hl => ?_) hP hS hl
  obtain ⟨k, hk, hl2⟩ : ∃ k : Nat, k + 520 = 520 ∧ lv_has ls 2 [(1, .int (nI k)), (0, .ref h1)] := ⟨0, Nat.zero_add _, hl⟩
  obtain ⟨n, hkn⟩ : ∃ n : Nat, k + n = 520 := ⟨520, hk⟩
  obtain ⟨f2476, hP2, hD2⟩ : ∃ (f2476 : Nat → Int32), va_P (dC, dI) vwCl [(md 41, .inl (cyI, 520, .inl (u2462 0))), (h1, .inr (7, [.ref (md 0), .ref (md 1), .int 0, .int 0, .int 0, .int (-1), .int 0, .int 0, .int 0, .int 0, .long 0, .ref (md 11), .ref (md 12), .ref (md 13), .ref (md 14), .ref (md 15), .ref (md 16), .ref (md 17), .ref (md 18), .ref (md 19), .ref (md 20), .ref (md 21), .ref (md 22), .ref (md 23), .ref (md 24), .ref (md 25), .ref (md 26), .ref (md 27), .ref (md 28), .int 0, .int 0, .int 0, .int 0, .int 0, .int 0, .int 0, .int 0, .int 0, .int 0, .int 0, .ref (md 40), .ref (md 41), .int 0, .int 0, .ref (md 44), .int 0, .int 0, .ref (md 47), .ref (md 48), .int 0, .ref (md 50), .ref (md 51), .ref (md 52), .ref (md 53), .ref (md 54), .int 0, .int 0, .ref (md 57), .ref (md 58)])), (md 40, .inl (cyI, 520, .inl f2476))] H ∧ va_D A [(md 41, .inl (cyI, 520, .inl (u2462 0))), (h1, .inr (7, [.ref (md 0), .ref (md 1), .int 0, .int 0, .int 0, .int (-1), .int 0, .int 0, .int 0, .int 0, .long 0, .ref (md 11), .ref (md 12), .ref (md 13), .ref (md 14), .ref (md 15), .ref (md 16), .ref (md 17), .ref (md 18), .ref (md 19), .ref (md 20), .ref (md 21), .ref (md 22), .ref (md 23), .ref (md 24), .ref (md 25), .ref (md 26), .ref (md 27), .ref (md 28), .int 0, .int 0, .int 0, .int 0, .int 0, .int 0, .int 0, .int 0, .int 0, .int 0, .int 0, .ref (md 40), .ref (md 41), .int 0, .int 0, .ref (md 44), .int 0, .int 0, .ref (md 47), .ref (md 48), .int 0, .ref (md 50), .ref (md 51), .ref (md 52), .ref (md 53), .ref (md 54), .int 0, .int 0, .ref (md 57), .ref (md 58)])), (md 40, .inl (cyI, 520, .inl f2476))] := ⟨_, hP, hD⟩
  clear hk hP hl
  have hP := hP2
  have hD := hD2
  have hl := hl2
  clear hP2 hD2 hl2
  induction n generalizing k f2476 H locs ls with
  | zero =>
    obtain rfl : k = 520 := by omega
    refine lv_iload_n hx hb dX7_bringBack_2 rfl (lv_at hl 0 rfl) ?_
    refine lv_sipush (v := 520) hx hb dX7_bringBack_3 (by decide) ?_
    refine lv_icmp_ge (tgt := 27) hx hb dX7_bringBack_6 (by decide) (fun _ => ?_) (fun c2477 => absurd (by decide) c2477)
    exact W.vret hx hb hr (fun t ht hW => ⟨⟨(fun _ => f2476), rfl, trivial, cE.of ht hP hD [0, 1, 2] (by decide) rfl⟩, hS.F ht⟩) hS.2.2 dX7_bringBack_27
  | succ n ih =>
    refine lv_iload_n hx hb dX7_bringBack_2 rfl (lv_at hl 0 rfl) ?_
    refine lv_sipush (v := 520) hx hb dX7_bringBack_3 (by decide) ?_
    refine lv_icmp_ge (tgt := 27) hx hb dX7_bringBack_6 (by decide) (fun c2478 => ?_) (fun c2478 => ?_)
    · have c2478 := i_le (a := 520) (b := (k : Int)) c2478 (by decide) (nI_toInt (by omega))
      exfalso; omega
    · have c2478 := i_nle (a := 520) (b := (k : Int)) c2478 (by decide) (nI_toInt (by omega))
      refine lv_aload_n hx hb dX7_bringBack_9 rfl (lv_at hl 1 rfl) ?_
      refine va_get (D := (dC, dI)) (ci := 7) (v := .ref (md 40)) (C := RX7) (T := TX7) (N := 59) hx hb hts hi7 hown hK hP 1 rfl rfl 40 (by decide) (hts _ (ow_m (k := 0) rfl)) (fun _ h9 => h9) rfl dX7_bringBack_10 ?_
      refine lv_iload_n hx hb dX7_bringBack_13 rfl (lv_at hl 0 rfl) ?_
      refine lv_aload_n hx hb dX7_bringBack_14 rfl (lv_at hl 1 rfl) ?_
      refine va_get (D := (dC, dI)) (ci := 7) (v := .ref (md 41)) (C := RX7) (T := TX7) (N := 59) hx hb hts hi7 hown hK hP 1 rfl rfl 41 (by decide) (hts _ (ow_m (k := 1) rfl)) (fun _ h9 => h9) rfl dX7_bringBack_15 ?_
      refine lv_iload_n hx hb dX7_bringBack_18 rfl (lv_at hl 0 rfl) ?_
      refine va_iald hx hb hK hP 0 1 rfl rfl (vp_i (nI_toInt (by omega)) (by omega) (by omega)) dX7_bringBack_19 ?_
      refine lv_topi (fun z2479 ez2479 => ?_)
      refine va_iast hx hb hK hP hD hS 2 1 rfl rfl (vp_i (nI_toInt (by omega)) (by omega) (by omega)) dX7_bringBack_20 (fun H locs hP hD hS => ?_)
      have hP : va_P (dC, dI) vwCl [(md 41, .inl (cyI, 520, .inl (u2462 0))), (h1, .inr (7, [.ref (md 0), .ref (md 1), .int 0, .int 0, .int 0, .int (-1), .int 0, .int 0, .int 0, .int 0, .long 0, .ref (md 11), .ref (md 12), .ref (md 13), .ref (md 14), .ref (md 15), .ref (md 16), .ref (md 17), .ref (md 18), .ref (md 19), .ref (md 20), .ref (md 21), .ref (md 22), .ref (md 23), .ref (md 24), .ref (md 25), .ref (md 26), .ref (md 27), .ref (md 28), .int 0, .int 0, .int 0, .int 0, .int 0, .int 0, .int 0, .int 0, .int 0, .int 0, .int 0, .ref (md 40), .ref (md 41), .int 0, .int 0, .ref (md 44), .int 0, .int 0, .ref (md 47), .ref (md 48), .int 0, .ref (md 50), .ref (md 51), .ref (md 52), .ref (md 53), .ref (md 54), .int 0, .int 0, .ref (md 57), .ref (md 58)])), (md 40, .inl (cyI, 520, .inl (upd f2476 (nI k).toNatClampNeg z2479)))] H := hP
      have hD : va_D A [(md 41, .inl (cyI, 520, .inl (u2462 0))), (h1, .inr (7, [.ref (md 0), .ref (md 1), .int 0, .int 0, .int 0, .int (-1), .int 0, .int 0, .int 0, .int 0, .long 0, .ref (md 11), .ref (md 12), .ref (md 13), .ref (md 14), .ref (md 15), .ref (md 16), .ref (md 17), .ref (md 18), .ref (md 19), .ref (md 20), .ref (md 21), .ref (md 22), .ref (md 23), .ref (md 24), .ref (md 25), .ref (md 26), .ref (md 27), .ref (md 28), .int 0, .int 0, .int 0, .int 0, .int 0, .int 0, .int 0, .int 0, .int 0, .int 0, .int 0, .ref (md 40), .ref (md 41), .int 0, .int 0, .ref (md 44), .int 0, .int 0, .ref (md 47), .ref (md 48), .int 0, .ref (md 50), .ref (md 51), .ref (md 52), .ref (md 53), .ref (md 54), .int 0, .int 0, .ref (md 57), .ref (md 58)])), (md 40, .inl (cyI, 520, .inl (upd f2476 (nI k).toNatClampNeg z2479)))] := hD
      generalize upd f2476 (nI k).toNatClampNeg z2479 = f2480 at hP hD
      refine lv_iinc (v := nI (k + 1)) (lv' := [(1, .int (nI (k + 1))), (0, .ref h1)]) hx hb dX7_bringBack_21 hl (k := 0) rfl (nI_1 k) (by decide) rfl (fun ls hl => ?_)
      refine lv_goto (tgt := 2) hx hb dX7_bringBack_24 (by decide) ?_
      have hl := lv_sub (l' := [(1, .int (nI (k + 1))), (0, .ref h1)]) hl [0, 1] rfl
      apply ih (k := k + 1) (f2476 := f2480) <;> first | assumption | omega
def wo_c_M_still : List Cond := [.methodLink RX7 410 yX7_keepNow, .instanceMethod yX7_keepNow, .selects RX7 yX7_keepNow yX7_keepNow, .initialized RX7, .methodLink RX7 413 yX7_traffic, .instanceMethod yX7_traffic, .selects RX7 yX7_traffic yX7_traffic, .fieldLink RX7 76 "ReplicaChainModel" "all" "[I", .methodLink RX7 416 yX7_bringBack, .instanceMethod yX7_bringBack, .selects RX7 yX7_bringBack yX7_bringBack]
def wq_c_M_still : List Cond := .code yX7_still cX7_still 2 (some .int) :: (wo_c_M_still ++ (wq_k_X7_keepNow ++ (wq_k_X7_traffic ++ (wq_k_X7_bringBack_v2 ++ (wsX70 ++ [])))))
theorem gd_c_M_still : Gd wq_c_M_still := gd_c (gd_a (gd_o (by decide +kernel)) (gd_a gd_k_X7_keepNow (gd_a gd_k_X7_traffic (gd_a gd_k_X7_bringBack_v2 (gd_a gd_u gd_0)))))
abbrev wc_c_M_still (cyB cyI cyJ cyZ cyO : ClassId) (h1 : Nat) (md : Nat → Nat) (g : Nat → Int32) : va_W := [(h1, .inr (7, [.ref (md 0), .ref (md 1), .int 0, .int 0, .int 0, .int (-1), .int 0, .int 0, .int 0, .int 0, .long 0, .ref (md 11), .ref (md 12), .ref (md 13), .ref (md 14), .ref (md 15), .ref (md 16), .ref (md 17), .ref (md 18), .ref (md 19), .ref (md 20), .ref (md 21), .ref (md 22), .ref (md 23), .ref (md 24), .ref (md 25), .ref (md 26), .ref (md 27), .ref (md 28), .int 0, .int 0, .int 0, .int 0, .int 0, .int 0, .int 0, .int 0, .int 0, .int 0, .int 0, .ref (md 40), .ref (md 41), .int 0, .int 0, .ref (md 44), .int 0, .int 0, .ref (md 47), .ref (md 48), .int 0, .ref (md 50), .ref (md 51), .ref (md 52), .ref (md 53), .ref (md 54), .int 0, .int 0, .ref (md 57), .ref (md 58)])), (md 40, .inl (cyI, 520, .inl g)), (md 41, .inl (cyI, 520, .inl (fun _ => 0)))]
set_option maxHeartbeats 4000000 in
set_option maxRecDepth 100000 in
theorem c_M_still (l : Launch) (dC : Nat → ClassId) (dI : Nat → Nat → Nat) (cyB cyI cyJ cyZ cyO : ClassId) (h1 : Nat) (md : Nat → Nat) (g : Nat → Int32) (sz : Nat) (hg : AllZ g) : Met l yX7_still wq_c_M_still ({ frames := 2, cells := 0, slots := 0, locals := 42 }) (va_Pc [.ref h1] (cB (dC, dI) (kT cyB cyI cyJ cyZ cyO) (wc_c_M_still cyB cyI cyJ cyZ cyO h1 md g) sz)) (va_Qi (fun (r : Int32) (_ : Unit) => r = 0) (fun (u : Unit) t => cE (dC, dI) (va_A (wc_c_M_still cyB cyI cyJ cyZ cyO h1 md g) sz) ([]) t.heap) (va_A (wc_c_M_still cyB cyI cyJ cyZ cyO h1 md g) sz)) 0 0 (va_A (wc_c_M_still cyB cyI cyJ cyZ cyO h1 md g) sz) := by
  refine Met.ofW (cc := cX7_still) (maxL := 2) (ret := (some .int)) (by decide) rfl ?_
  intro p e s m args below meth c s₁ B hml hv
  obtain ⟨rfl, hsz, hP, hKN, hD0⟩ := hv
  have hx := B.exec
  have hb := B.bytes
  have hr := B.returns
  have hts := atoms_spec (ws := wq_c_M_still) B.pre
  have hown : s.vm.findClass RX7 = some m.cls := findClass_of_methodNamed B.named
  have hlocks := B.notSynchronized
  have hK := hKN.1
  have hfix : CallFix p m c cX7_still 2 s [.ref h1].toArray wq_c_M_still RX7 := ⟨hx, hb, hml, hown, hts⟩
  have hi7 : ∀ w ∈ wsX70, w ∈ wq_c_M_still := (sb_c (sb_r (sb_r (sb_r sb_l))))
  subst hsz
  have hD := hD0.self (sz := s.heap.size)
  generalize hAe : va_A (wc_c_M_still cyB cyI cyJ cyZ cyO h1 md g) s.heap.size = A at hD ⊢
  have hA : ∀ q : Nat, s.heap.size ≤ q → A q := fun q h => by rw [← hAe]; exact Or.inr h
  have hS : va_S A s.heap s.heap [] := va_S.rf
  have hl := lv_entry ([.ref h1]) (n := 2) (Nat.le_of_ble_eq_true rfl)
  rw [lg_entry_eq]
  generalize (lg_sl ([.ref h1]) ++ List.replicate (2 - (lg_sl ([.ref h1])).length) Slot.unset).toArray = ls at hl ⊢
  have hl : lv_has ls 2 [(0, .ref h1)] := hl
  refine lv_aload_n hx hb dX7_still_0 rfl (lv_at hl 0 rfl) ?_
  refine gf_v (wr := []) (va_runV (As := []) (rest := []) hfix (k_X7_keepNow l dC dI cyB cyI cyJ cyZ cyO h1 md g _ hg) (cwV 0 hts (gi_V (ow_m (k := 0) rfl) (ow_m (k := 1) rfl) (ow_m (k := 2) rfl) (ow_m (k := 3) rfl) (sb_c sb_l) gd_k_X7_keepNow) rfl rfl rfl (by decide +kernel) ⟨Nat.le_of_ble_eq_true rfl, Nat.le_of_ble_eq_true rfl⟩) (g_preV hKN hP hD [0, 1, 2] rfl (by decide) 0 7 rfl rfl) rfl rfl hl.1 rfl (lv_room (Nat.le_of_ble_eq_true rfl)) dX7_still_1 ⟨Nat.le_of_ble_eq_true rfl, Nat.le_of_ble_eq_true rfl⟩) hP hD hS hA [0, 1, 2] [] rfl rfl (by decide) (by decide) (fun u2462 H locs qu2462 hP hD hS => ?_)
  have hP : va_P (dC, dI) vwCl [(h1, .inr (7, [.ref (md 0), .ref (md 1), .int 0, .int 0, .int 0, .int (-1), .int 0, .int 0, .int 0, .int 0, .long 0, .ref (md 11), .ref (md 12), .ref (md 13), .ref (md 14), .ref (md 15), .ref (md 16), .ref (md 17), .ref (md 18), .ref (md 19), .ref (md 20), .ref (md 21), .ref (md 22), .ref (md 23), .ref (md 24), .ref (md 25), .ref (md 26), .ref (md 27), .ref (md 28), .int 0, .int 0, .int 0, .int 0, .int 0, .int 0, .int 0, .int 0, .int 0, .int 0, .int 0, .ref (md 40), .ref (md 41), .int 0, .int 0, .ref (md 44), .int 0, .int 0, .ref (md 47), .ref (md 48), .int 0, .ref (md 50), .ref (md 51), .ref (md 52), .ref (md 53), .ref (md 54), .int 0, .int 0, .ref (md 57), .ref (md 58)])), (md 40, .inl (cyI, 520, .inl g)), (md 41, .inl (cyI, 520, .inl (u2462 0)))] H := hP
  have hD : va_D A [(h1, .inr (7, [.ref (md 0), .ref (md 1), .int 0, .int 0, .int 0, .int (-1), .int 0, .int 0, .int 0, .int 0, .long 0, .ref (md 11), .ref (md 12), .ref (md 13), .ref (md 14), .ref (md 15), .ref (md 16), .ref (md 17), .ref (md 18), .ref (md 19), .ref (md 20), .ref (md 21), .ref (md 22), .ref (md 23), .ref (md 24), .ref (md 25), .ref (md 26), .ref (md 27), .ref (md 28), .int 0, .int 0, .int 0, .int 0, .int 0, .int 0, .int 0, .int 0, .int 0, .int 0, .int 0, .ref (md 40), .ref (md 41), .int 0, .int 0, .ref (md 44), .int 0, .int 0, .ref (md 47), .ref (md 48), .int 0, .ref (md 50), .ref (md 51), .ref (md 52), .ref (md 53), .ref (md 54), .int 0, .int 0, .ref (md 57), .ref (md 58)])), (md 40, .inl (cyI, 520, .inl g)), (md 41, .inl (cyI, 520, .inl (u2462 0)))] := hD
  refine lv_iconst (v := 0) hx hb dX7_still_4 (by decide) ?_
  refine lv_istore_n (lv' := [(1, .int 0), (0, .ref h1)]) hx hb dX7_still_5 rfl hl (by decide) rfl (fun ls hl => ?_)
  refine lv_iload_n hx hb dX7_still_6 rfl (lv_at hl 0 rfl) ?_
  refine lv_sipush (v := 400) hx hb dX7_still_7 (by decide) ?_
  refine lv_icmp_ge (tgt := 44) hx hb dX7_still_10 (by decide) (fun c2463 => absurd c2463 (by decide)) (fun _ => ?_)
  refine lv_aload_n hx hb dX7_still_13 rfl (lv_at hl 1 rfl) ?_
  refine gf_i (wr := [(md 41, .inl (cyI, 520, .inl (u2462 0)))]) (va_runV (As := []) (rest := []) hfix (k_X7_traffic l dC dI cyB cyI cyJ cyZ cyO h1 md g _ hg) (cwV 0 hts (gi_V (ow_m (k := 4) rfl) (ow_m (k := 5) rfl) (ow_m (k := 6) rfl) (ow_m (k := 3) rfl) (sb_c (sb_r sb_l)) gd_k_X7_traffic) rfl rfl rfl (by decide +kernel) ⟨Nat.le_of_ble_eq_true rfl, Nat.le_of_ble_eq_true rfl⟩) (g_preV hKN hP hD [0, 1] rfl (by decide) 0 7 rfl rfl) rfl rfl hl.1 rfl (lv_room (Nat.le_of_ble_eq_true rfl)) dX7_still_14 ⟨Nat.le_of_ble_eq_true rfl, Nat.le_of_ble_eq_true rfl⟩) hP hD hS hA [0, 1] [2] rfl rfl (by decide) (by decide) (fun r2467 u2468 H locs qu2468 hP hD hS => ?_)
  have hP : va_P (dC, dI) vwCl [(md 41, .inl (cyI, 520, .inl (u2462 0))), (h1, .inr (7, [.ref (md 0), .ref (md 1), .int 0, .int 0, .int 0, .int (-1), .int 0, .int 0, .int 0, .int 0, .long 0, .ref (md 11), .ref (md 12), .ref (md 13), .ref (md 14), .ref (md 15), .ref (md 16), .ref (md 17), .ref (md 18), .ref (md 19), .ref (md 20), .ref (md 21), .ref (md 22), .ref (md 23), .ref (md 24), .ref (md 25), .ref (md 26), .ref (md 27), .ref (md 28), .int 0, .int 0, .int 0, .int 0, .int 0, .int 0, .int 0, .int 0, .int 0, .int 0, .int 0, .ref (md 40), .ref (md 41), .int 0, .int 0, .ref (md 44), .int 0, .int 0, .ref (md 47), .ref (md 48), .int 0, .ref (md 50), .ref (md 51), .ref (md 52), .ref (md 53), .ref (md 54), .int 0, .int 0, .ref (md 57), .ref (md 58)])), (md 40, .inl (cyI, 520, .inl g))] H := hP
  have hD : va_D A [(md 41, .inl (cyI, 520, .inl (u2462 0))), (h1, .inr (7, [.ref (md 0), .ref (md 1), .int 0, .int 0, .int 0, .int (-1), .int 0, .int 0, .int 0, .int 0, .long 0, .ref (md 11), .ref (md 12), .ref (md 13), .ref (md 14), .ref (md 15), .ref (md 16), .ref (md 17), .ref (md 18), .ref (md 19), .ref (md 20), .ref (md 21), .ref (md 22), .ref (md 23), .ref (md 24), .ref (md 25), .ref (md 26), .ref (md 27), .ref (md 28), .int 0, .int 0, .int 0, .int 0, .int 0, .int 0, .int 0, .int 0, .int 0, .int 0, .int 0, .ref (md 40), .ref (md 41), .int 0, .int 0, .ref (md 44), .int 0, .int 0, .ref (md 47), .ref (md 48), .int 0, .ref (md 50), .ref (md 51), .ref (md 52), .ref (md 53), .ref (md 54), .int 0, .int 0, .ref (md 57), .ref (md 58)])), (md 40, .inl (cyI, 520, .inl g))] := hD
  refine tp_c (w := 0) qu2468 ?_
  refine lv_if_gt (tgt := 30) hx hb dX7_still_17 (by decide) (fun c2469 => absurd c2469 (by decide)) (fun _ => ?_)
  refine lv_aload_n hx hb dX7_still_20 rfl (lv_at hl 1 rfl) ?_
  refine va_get (D := (dC, dI)) (ci := 7) (v := .ref (md 40)) (C := RX7) (T := TX7) (N := 59) hx hb hts hi7 hown hK hP 1 rfl rfl 40 (by decide) (hts _ (ow_m (k := 7) rfl)) (fun _ h9 => h9) rfl dX7_still_21 ?_
  refine lv_bipush (v := 105) hx hb dX7_still_24 (by decide) ?_
  refine va_iald hx hb hK hP 2 1 rfl rfl (vp_i (a := 105) (by decide) (by decide) (by decide)) dX7_still_26 ?_
  refine tp_c (w := (-1)) (hg 105 (by decide)) ?_
  refine lv_if_lt (tgt := 44) hx hb dX7_still_27 (by decide) (fun _ => ?_) (fun c2470 => absurd (by decide) c2470)
  refine lv_aload_n hx hb dX7_still_44 rfl (lv_at hl 1 rfl) ?_
  refine gf_v (wr := []) (va_runV (As := []) (rest := []) hfix (k_X7_bringBack_v2 l dC dI cyB cyI cyJ cyZ cyO md u2462 h1 g _ hg) (cwV 0 hts (gi_V (ow_m (k := 8) rfl) (ow_m (k := 9) rfl) (ow_m (k := 10) rfl) (ow_m (k := 3) rfl) (sb_c (sb_r (sb_r sb_l))) gd_k_X7_bringBack_v2) rfl rfl rfl (by decide +kernel) ⟨Nat.le_of_ble_eq_true rfl, Nat.le_of_ble_eq_true rfl⟩) (g_preV hKN hP hD [0, 1, 2] rfl (by decide) 1 7 rfl rfl) rfl rfl hl.1 rfl (lv_room (Nat.le_of_ble_eq_true rfl)) dX7_still_45 ⟨Nat.le_of_ble_eq_true rfl, Nat.le_of_ble_eq_true rfl⟩) hP hD hS hA [0, 1, 2] [] rfl rfl (by decide) (by decide) (fun u2482 H locs qu2482 hP hD hS => ?_)
  have hP : va_P (dC, dI) vwCl [(md 41, .inl (cyI, 520, .inl (u2462 0))), (h1, .inr (7, [.ref (md 0), .ref (md 1), .int 0, .int 0, .int 0, .int (-1), .int 0, .int 0, .int 0, .int 0, .long 0, .ref (md 11), .ref (md 12), .ref (md 13), .ref (md 14), .ref (md 15), .ref (md 16), .ref (md 17), .ref (md 18), .ref (md 19), .ref (md 20), .ref (md 21), .ref (md 22), .ref (md 23), .ref (md 24), .ref (md 25), .ref (md 26), .ref (md 27), .ref (md 28), .int 0, .int 0, .int 0, .int 0, .int 0, .int 0, .int 0, .int 0, .int 0, .int 0, .int 0, .ref (md 40), .ref (md 41), .int 0, .int 0, .ref (md 44), .int 0, .int 0, .ref (md 47), .ref (md 48), .int 0, .ref (md 50), .ref (md 51), .ref (md 52), .ref (md 53), .ref (md 54), .int 0, .int 0, .ref (md 57), .ref (md 58)])), (md 40, .inl (cyI, 520, .inl (u2482 0)))] H := hP
  have hD : va_D A [(md 41, .inl (cyI, 520, .inl (u2462 0))), (h1, .inr (7, [.ref (md 0), .ref (md 1), .int 0, .int 0, .int 0, .int (-1), .int 0, .int 0, .int 0, .int 0, .long 0, .ref (md 11), .ref (md 12), .ref (md 13), .ref (md 14), .ref (md 15), .ref (md 16), .ref (md 17), .ref (md 18), .ref (md 19), .ref (md 20), .ref (md 21), .ref (md 22), .ref (md 23), .ref (md 24), .ref (md 25), .ref (md 26), .ref (md 27), .ref (md 28), .int 0, .int 0, .int 0, .int 0, .int 0, .int 0, .int 0, .int 0, .int 0, .int 0, .int 0, .ref (md 40), .ref (md 41), .int 0, .int 0, .ref (md 44), .int 0, .int 0, .ref (md 47), .ref (md 48), .int 0, .ref (md 50), .ref (md 51), .ref (md 52), .ref (md 53), .ref (md 54), .int 0, .int 0, .ref (md 57), .ref (md 58)])), (md 40, .inl (cyI, 520, .inl (u2482 0)))] := hD
  refine lv_iload_n hx hb dX7_still_48 rfl (lv_at hl 0 rfl) ?_
  exact W.iret (v := 0) hx hb hr (fun t ht hW => ⟨⟨0, (), rfl, rfl, cE.nil⟩, hS.F ht⟩) hS.2.2 dX7_still_49
def wo_k_X7_atLeast : List Cond := [.methodLink RX7 313 yX7_lots, .instanceMethod yX7_lots, .selects RX7 yX7_lots yX7_lots, .initialized RX7]
def wq_k_X7_atLeast : List Cond := .code yX7_atLeast cX7_atLeast 5 (some .int) :: (wo_k_X7_atLeast ++ (wq_k_X7_lots_v5 ++ []))
theorem gd_k_X7_atLeast : Gd wq_k_X7_atLeast := gd_c (gd_a (gd_o (by decide +kernel)) (gd_a gd_k_X7_lots_v5 gd_0))
abbrev wc_k_X7_atLeast (cyB cyI cyJ cyZ cyO : ClassId) (h1 : Nat) (md : Nat → Nat) (g : Nat → Int32) : va_W := [(h1, .inr (7, [.ref (md 0), .ref (md 1), .int 0, .int 0, .int 0, .int (-1), .int 0, .int 0, .int 0, .int 0, .long 0, .ref (md 11), .ref (md 12), .ref (md 13), .ref (md 14), .ref (md 15), .ref (md 16), .ref (md 17), .ref (md 18), .ref (md 19), .ref (md 20), .ref (md 21), .ref (md 22), .ref (md 23), .ref (md 24), .ref (md 25), .ref (md 26), .ref (md 27), .ref (md 28), .int 0, .int 0, .int 0, .int 0, .int 0, .int 0, .int 0, .int 0, .int 0, .int 0, .int 0, .ref (md 40), .ref (md 41), .int 0, .int 0, .ref (md 44), .int 0, .int 0, .ref (md 47), .ref (md 48), .int 0, .ref (md 50), .ref (md 51), .ref (md 52), .ref (md 53), .ref (md 54), .int 0, .int 0, .ref (md 57), .ref (md 58)])), (md 40, .inl (cyI, 520, .inl g))]
set_option maxHeartbeats 4000000 in
set_option maxRecDepth 100000 in
theorem k_X7_atLeast (l : Launch) (dC : Nat → ClassId) (dI : Nat → Nat → Nat) (cyB cyI cyJ cyZ cyO : ClassId) (h1 : Nat) (md : Nat → Nat) (g : Nat → Int32) (sz : Nat) (hg : AllZ g) : Met l yX7_atLeast wq_k_X7_atLeast ({ frames := 1, cells := 0, slots := 0, locals := 20 }) (va_Pc [.ref h1, .int 7, .int 0] (cB (dC, dI) (kT cyB cyI cyJ cyZ cyO) (wc_k_X7_atLeast cyB cyI cyJ cyZ cyO h1 md g) sz)) (va_Qi (fun (r : Int32) _ => r = 0) (fun (u : Unit) t => cE (dC, dI) (va_A (wc_k_X7_atLeast cyB cyI cyJ cyZ cyO h1 md g) sz) ([(h1, .inr (7, [.ref (md 0), .ref (md 1), .int 0, .int 0, .int 0, .int (-1), .int 0, .int 0, .int 0, .int 0, .long 0, .ref (md 11), .ref (md 12), .ref (md 13), .ref (md 14), .ref (md 15), .ref (md 16), .ref (md 17), .ref (md 18), .ref (md 19), .ref (md 20), .ref (md 21), .ref (md 22), .ref (md 23), .ref (md 24), .ref (md 25), .ref (md 26), .ref (md 27), .ref (md 28), .int 0, .int 0, .int 0, .int 0, .int 0, .int 0, .int 0, .int 0, .int 0, .int 0, .int 0, .ref (md 40), .ref (md 41), .int 0, .int 0, .ref (md 44), .int 0, .int 0, .ref (md 47), .ref (md 48), .int 0, .ref (md 50), .ref (md 51), .ref (md 52), .ref (md 53), .ref (md 54), .int 0, .int 0, .ref (md 57), .ref (md 58)])), (md 40, .inl (cyI, 520, .inl g))]) t.heap) (va_A (wc_k_X7_atLeast cyB cyI cyJ cyZ cyO h1 md g) sz)) 0 0 (va_A (wc_k_X7_atLeast cyB cyI cyJ cyZ cyO h1 md g) sz) := by
  refine Met.ofW (cc := cX7_atLeast) (maxL := 5) (ret := (some .int)) (by decide) rfl ?_
  intro p e s m args below meth c s₁ B hml hv
  obtain ⟨rfl, hsz, hP, hKN, hD0⟩ := hv
  have hx := B.exec
  have hb := B.bytes
  have hr := B.returns
  have hts := atoms_spec (ws := wq_k_X7_atLeast) B.pre
  have hown : s.vm.findClass RX7 = some m.cls := findClass_of_methodNamed B.named
  have hlocks := B.notSynchronized
  have hK := hKN.1
  have hfix : CallFix p m c cX7_atLeast 5 s [.ref h1, .int 7, .int 0].toArray wq_k_X7_atLeast RX7 := ⟨hx, hb, hml, hown, hts⟩
  subst hsz
  have hD := hD0.self (sz := s.heap.size)
  generalize hAe : va_A (wc_k_X7_atLeast cyB cyI cyJ cyZ cyO h1 md g) s.heap.size = A at hD ⊢
  have hA : ∀ q : Nat, s.heap.size ≤ q → A q := fun q h => by rw [← hAe]; exact Or.inr h
  have hS : va_S A s.heap s.heap [] := va_S.rf
  have hl := lv_entry ([.ref h1, .int 7, .int 0]) (n := 5) (Nat.le_of_ble_eq_true rfl)
  rw [lg_entry_eq]
  generalize (lg_sl ([.ref h1, .int 7, .int 0]) ++ List.replicate (5 - (lg_sl ([.ref h1, .int 7, .int 0])).length) Slot.unset).toArray = ls at hl ⊢
  have hl : lv_has ls 5 [(0, .ref h1), (1, .int 7), (2, .int 0)] := hl
  refine lv_iconst (v := 0) hx hb dX7_atLeast_0 (by decide) ?_
  refine lv_istore_n (lv' := [(3, .int 0), (0, .ref h1), (1, .int 7), (2, .int 0)]) hx hb dX7_atLeast_1 rfl hl (by decide) rfl (fun ls hl => ?_)
  refine lv_iconst (v := 0) hx hb dX7_atLeast_2 (by decide) ?_
  refine lv_istore (lv' := [(4, .int 0), (3, .int 0), (0, .ref h1), (1, .int 7), (2, .int 0)]) hx hb dX7_atLeast_3 hl (by decide) rfl (fun ls hl => ?_)
  refine lv_iload hx hb dX7_atLeast_5 (lv_at hl 0 rfl) ?_
  refine lv_aload_n hx hb dX7_atLeast_7 rfl (lv_at hl 2 rfl) ?_
  refine gf_i (wr := []) (va_runV (As := []) (rest := [.int 0]) hfix (k_X7_lots_v5 l dC dI cyB cyI cyJ cyZ cyO h1 md g _ hg) (cwV 0 hts (gi_V (ow_m (k := 0) rfl) (ow_m (k := 1) rfl) (ow_m (k := 2) rfl) (ow_m (k := 3) rfl) (sb_c sb_l) gd_k_X7_lots_v5) rfl rfl rfl (by decide +kernel) ⟨Nat.le_of_ble_eq_true rfl, Nat.le_of_ble_eq_true rfl⟩) (g_preV hKN hP hD [0, 1] rfl (by decide) 0 7 rfl rfl) rfl rfl hl.1 rfl (lv_room (Nat.le_of_ble_eq_true rfl)) dX7_atLeast_8 ⟨Nat.le_of_ble_eq_true rfl, Nat.le_of_ble_eq_true rfl⟩) hP hD hS hA [0, 1] [] rfl rfl (by decide) (by decide) (fun r2486 u2487 H locs qu2487 hP hD hS => ?_)
  have hP : va_P (dC, dI) vwCl [(h1, .inr (7, [.ref (md 0), .ref (md 1), .int 0, .int 0, .int 0, .int (-1), .int 0, .int 0, .int 0, .int 0, .long 0, .ref (md 11), .ref (md 12), .ref (md 13), .ref (md 14), .ref (md 15), .ref (md 16), .ref (md 17), .ref (md 18), .ref (md 19), .ref (md 20), .ref (md 21), .ref (md 22), .ref (md 23), .ref (md 24), .ref (md 25), .ref (md 26), .ref (md 27), .ref (md 28), .int 0, .int 0, .int 0, .int 0, .int 0, .int 0, .int 0, .int 0, .int 0, .int 0, .int 0, .ref (md 40), .ref (md 41), .int 0, .int 0, .ref (md 44), .int 0, .int 0, .ref (md 47), .ref (md 48), .int 0, .ref (md 50), .ref (md 51), .ref (md 52), .ref (md 53), .ref (md 54), .int 0, .int 0, .ref (md 57), .ref (md 58)])), (md 40, .inl (cyI, 520, .inl g))] H := hP
  have hD : va_D A [(h1, .inr (7, [.ref (md 0), .ref (md 1), .int 0, .int 0, .int 0, .int (-1), .int 0, .int 0, .int 0, .int 0, .long 0, .ref (md 11), .ref (md 12), .ref (md 13), .ref (md 14), .ref (md 15), .ref (md 16), .ref (md 17), .ref (md 18), .ref (md 19), .ref (md 20), .ref (md 21), .ref (md 22), .ref (md 23), .ref (md 24), .ref (md 25), .ref (md 26), .ref (md 27), .ref (md 28), .int 0, .int 0, .int 0, .int 0, .int 0, .int 0, .int 0, .int 0, .int 0, .int 0, .int 0, .ref (md 40), .ref (md 41), .int 0, .int 0, .ref (md 44), .int 0, .int 0, .ref (md 47), .ref (md 48), .int 0, .ref (md 50), .ref (md 51), .ref (md 52), .ref (md 53), .ref (md 54), .int 0, .int 0, .ref (md 57), .ref (md 58)])), (md 40, .inl (cyI, 520, .inl g))] := hD
  refine tp_c (w := 0) qu2487 ?_
  refine lv_icmp_ge (tgt := 48) hx hb dX7_atLeast_11 (by decide) (fun _ => ?_) (fun c2488 => absurd (by decide) c2488)
  refine lv_iload_n hx hb dX7_atLeast_48 rfl (lv_at hl 1 rfl) ?_
  exact W.iret (v := 0) hx hb hr (fun t ht hW => ⟨⟨0, (), rfl, rfl, cE.of ht hP hD [0, 1] (by decide) rfl⟩, hS.F ht⟩) hS.2.2 dX7_atLeast_49
def wo_k_X7_membersSet : List Cond := [.methodLink RX7 404 yX7_atLeast, .instanceMethod yX7_atLeast, .selects RX7 yX7_atLeast yX7_atLeast, .initialized RX7]
def wq_k_X7_membersSet : List Cond := .code yX7_membersSet cX7_membersSet 1 (some .int) :: (wo_k_X7_membersSet ++ (wq_k_X7_atLeast ++ []))
theorem gd_k_X7_membersSet : Gd wq_k_X7_membersSet := gd_c (gd_a (gd_o (by decide +kernel)) (gd_a gd_k_X7_atLeast gd_0))
abbrev wc_k_X7_membersSet (cyB cyI cyJ cyZ cyO : ClassId) (h1 : Nat) (md : Nat → Nat) (g : Nat → Int32) : va_W := [(h1, .inr (7, [.ref (md 0), .ref (md 1), .int 0, .int 0, .int 0, .int (-1), .int 0, .int 0, .int 0, .int 0, .long 0, .ref (md 11), .ref (md 12), .ref (md 13), .ref (md 14), .ref (md 15), .ref (md 16), .ref (md 17), .ref (md 18), .ref (md 19), .ref (md 20), .ref (md 21), .ref (md 22), .ref (md 23), .ref (md 24), .ref (md 25), .ref (md 26), .ref (md 27), .ref (md 28), .int 0, .int 0, .int 0, .int 0, .int 0, .int 0, .int 0, .int 0, .int 0, .int 0, .int 0, .ref (md 40), .ref (md 41), .int 0, .int 0, .ref (md 44), .int 0, .int 0, .ref (md 47), .ref (md 48), .int 0, .ref (md 50), .ref (md 51), .ref (md 52), .ref (md 53), .ref (md 54), .int 0, .int 0, .ref (md 57), .ref (md 58)])), (md 40, .inl (cyI, 520, .inl g))]
set_option maxHeartbeats 4000000 in
set_option maxRecDepth 100000 in
theorem k_X7_membersSet (l : Launch) (dC : Nat → ClassId) (dI : Nat → Nat → Nat) (cyB cyI cyJ cyZ cyO : ClassId) (h1 : Nat) (md : Nat → Nat) (g : Nat → Int32) (sz : Nat) (hg : AllZ g) : Met l yX7_membersSet wq_k_X7_membersSet ({ frames := 2, cells := 0, slots := 0, locals := 44 }) (va_Pc [.ref h1] (cB (dC, dI) (kT cyB cyI cyJ cyZ cyO) (wc_k_X7_membersSet cyB cyI cyJ cyZ cyO h1 md g) sz)) (va_Qi (fun (r : Int32) _ => r = 0) (fun (u : Unit) t => cE (dC, dI) (va_A (wc_k_X7_membersSet cyB cyI cyJ cyZ cyO h1 md g) sz) ([(h1, .inr (7, [.ref (md 0), .ref (md 1), .int 0, .int 0, .int 0, .int (-1), .int 0, .int 0, .int 0, .int 0, .long 0, .ref (md 11), .ref (md 12), .ref (md 13), .ref (md 14), .ref (md 15), .ref (md 16), .ref (md 17), .ref (md 18), .ref (md 19), .ref (md 20), .ref (md 21), .ref (md 22), .ref (md 23), .ref (md 24), .ref (md 25), .ref (md 26), .ref (md 27), .ref (md 28), .int 0, .int 0, .int 0, .int 0, .int 0, .int 0, .int 0, .int 0, .int 0, .int 0, .int 0, .ref (md 40), .ref (md 41), .int 0, .int 0, .ref (md 44), .int 0, .int 0, .ref (md 47), .ref (md 48), .int 0, .ref (md 50), .ref (md 51), .ref (md 52), .ref (md 53), .ref (md 54), .int 0, .int 0, .ref (md 57), .ref (md 58)])), (md 40, .inl (cyI, 520, .inl g))]) t.heap) (va_A (wc_k_X7_membersSet cyB cyI cyJ cyZ cyO h1 md g) sz)) 0 0 (va_A (wc_k_X7_membersSet cyB cyI cyJ cyZ cyO h1 md g) sz) := by
  refine Met.ofW (cc := cX7_membersSet) (maxL := 1) (ret := (some .int)) (by decide) rfl ?_
  intro p e s m args below meth c s₁ B hml hv
  obtain ⟨rfl, hsz, hP, hKN, hD0⟩ := hv
  have hx := B.exec
  have hb := B.bytes
  have hr := B.returns
  have hts := atoms_spec (ws := wq_k_X7_membersSet) B.pre
  have hown : s.vm.findClass RX7 = some m.cls := findClass_of_methodNamed B.named
  have hlocks := B.notSynchronized
  have hK := hKN.1
  have hfix : CallFix p m c cX7_membersSet 1 s [.ref h1].toArray wq_k_X7_membersSet RX7 := ⟨hx, hb, hml, hown, hts⟩
  subst hsz
  have hD := hD0.self (sz := s.heap.size)
  generalize hAe : va_A (wc_k_X7_membersSet cyB cyI cyJ cyZ cyO h1 md g) s.heap.size = A at hD ⊢
  have hA : ∀ q : Nat, s.heap.size ≤ q → A q := fun q h => by rw [← hAe]; exact Or.inr h
  have hS : va_S A s.heap s.heap [] := va_S.rf
  have hl := lv_entry ([.ref h1]) (n := 1) (Nat.le_of_ble_eq_true rfl)
  rw [lg_entry_eq]
  generalize (lg_sl ([.ref h1]) ++ List.replicate (1 - (lg_sl ([.ref h1])).length) Slot.unset).toArray = ls at hl ⊢
  have hl : lv_has ls 1 [(0, .ref h1)] := hl
  refine lv_aload_n hx hb dX7_membersSet_0 rfl (lv_at hl 0 rfl) ?_
  refine lv_bipush (v := 7) hx hb dX7_membersSet_1 (by decide) ?_
  refine lv_iconst (v := 0) hx hb dX7_membersSet_3 (by decide) ?_
  refine gf_i (wr := []) (va_runV (As := [.int 7, .int 0]) (rest := []) hfix (k_X7_atLeast l dC dI cyB cyI cyJ cyZ cyO h1 md g _ hg) (cwV 2 hts (gi_V (ow_m (k := 0) rfl) (ow_m (k := 1) rfl) (ow_m (k := 2) rfl) (ow_m (k := 3) rfl) (sb_c sb_l) gd_k_X7_atLeast) rfl rfl rfl (by decide +kernel) ⟨Nat.le_of_ble_eq_true rfl, Nat.le_of_ble_eq_true rfl⟩) (g_preV hKN hP hD [0, 1] rfl (by decide) 0 7 rfl rfl) rfl rfl hl.1 rfl (lv_room (Nat.le_of_ble_eq_true rfl)) dX7_membersSet_4 ⟨Nat.le_of_ble_eq_true rfl, Nat.le_of_ble_eq_true rfl⟩) hP hD hS hA [0, 1] [] rfl rfl (by decide) (by decide) (fun r2494 u2495 H locs qu2495 hP hD hS => ?_)
  have hP : va_P (dC, dI) vwCl [(h1, .inr (7, [.ref (md 0), .ref (md 1), .int 0, .int 0, .int 0, .int (-1), .int 0, .int 0, .int 0, .int 0, .long 0, .ref (md 11), .ref (md 12), .ref (md 13), .ref (md 14), .ref (md 15), .ref (md 16), .ref (md 17), .ref (md 18), .ref (md 19), .ref (md 20), .ref (md 21), .ref (md 22), .ref (md 23), .ref (md 24), .ref (md 25), .ref (md 26), .ref (md 27), .ref (md 28), .int 0, .int 0, .int 0, .int 0, .int 0, .int 0, .int 0, .int 0, .int 0, .int 0, .int 0, .ref (md 40), .ref (md 41), .int 0, .int 0, .ref (md 44), .int 0, .int 0, .ref (md 47), .ref (md 48), .int 0, .ref (md 50), .ref (md 51), .ref (md 52), .ref (md 53), .ref (md 54), .int 0, .int 0, .ref (md 57), .ref (md 58)])), (md 40, .inl (cyI, 520, .inl g))] H := hP
  have hD : va_D A [(h1, .inr (7, [.ref (md 0), .ref (md 1), .int 0, .int 0, .int 0, .int (-1), .int 0, .int 0, .int 0, .int 0, .long 0, .ref (md 11), .ref (md 12), .ref (md 13), .ref (md 14), .ref (md 15), .ref (md 16), .ref (md 17), .ref (md 18), .ref (md 19), .ref (md 20), .ref (md 21), .ref (md 22), .ref (md 23), .ref (md 24), .ref (md 25), .ref (md 26), .ref (md 27), .ref (md 28), .int 0, .int 0, .int 0, .int 0, .int 0, .int 0, .int 0, .int 0, .int 0, .int 0, .int 0, .ref (md 40), .ref (md 41), .int 0, .int 0, .ref (md 44), .int 0, .int 0, .ref (md 47), .ref (md 48), .int 0, .ref (md 50), .ref (md 51), .ref (md 52), .ref (md 53), .ref (md 54), .int 0, .int 0, .ref (md 57), .ref (md 58)])), (md 40, .inl (cyI, 520, .inl g))] := hD
  refine tp_c (w := 0) qu2495 ?_
  exact W.iret (v := 0) hx hb hr (fun t ht hW => ⟨⟨0, (), rfl, rfl, cE.of ht hP hD [0, 1] (by decide) rfl⟩, hS.F ht⟩) hS.2.2 dX7_membersSet_7
def wo_c_M_drops : List Cond := [.methodLink RX7 462 yX7_membersSet, .instanceMethod yX7_membersSet, .selects RX7 yX7_membersSet yX7_membersSet, .initialized RX7]
def wq_c_M_drops : List Cond := .code yX7_drops cX7_drops 2 (some .int) :: (wo_c_M_drops ++ (wq_k_X7_membersSet ++ []))
theorem gd_c_M_drops : Gd wq_c_M_drops := gd_c (gd_a (gd_o (by decide +kernel)) (gd_a gd_k_X7_membersSet gd_0))
abbrev wc_c_M_drops (cyB cyI cyJ cyZ cyO : ClassId) (h1 : Nat) (md : Nat → Nat) (g : Nat → Int32) (x1 : Int32) : va_W := [(h1, .inr (7, [.ref (md 0), .ref (md 1), .int 0, .int 0, .int 0, .int (-1), .int 0, .int 0, .int 0, .int 0, .long 0, .ref (md 11), .ref (md 12), .ref (md 13), .ref (md 14), .ref (md 15), .ref (md 16), .ref (md 17), .ref (md 18), .ref (md 19), .ref (md 20), .ref (md 21), .ref (md 22), .ref (md 23), .ref (md 24), .ref (md 25), .ref (md 26), .ref (md 27), .ref (md 28), .int 0, .int 0, .int 0, .int 0, .int 0, .int 0, .int 0, .int 0, .int 0, .int 0, .int 0, .ref (md 40), .ref (md 41), .int 0, .int 0, .ref (md 44), .int 0, .int 0, .ref (md 47), .ref (md 48), .int 0, .ref (md 50), .ref (md 51), .ref (md 52), .ref (md 53), .ref (md 54), .int 0, .int 0, .ref (md 57), .ref (md 58)])), (md 40, .inl (cyI, 520, .inl g))]
set_option maxHeartbeats 4000000 in
set_option maxRecDepth 100000 in
theorem c_M_drops (l : Launch) (dC : Nat → ClassId) (dI : Nat → Nat → Nat) (cyB cyI cyJ cyZ cyO : ClassId) (h1 : Nat) (md : Nat → Nat) (g : Nat → Int32) (x1 : Int32) (sz : Nat) (hg : AllZ g) : Met l yX7_drops wq_c_M_drops ({ frames := 3, cells := 0, slots := 0, locals := 64 }) (va_Pc [.ref h1, .int x1] (cB (dC, dI) (kT cyB cyI cyJ cyZ cyO) (wc_c_M_drops cyB cyI cyJ cyZ cyO h1 md g x1) sz)) (va_Qi (fun (r : Int32) (_ : Unit) => r = -1) (fun (u : Unit) t => cE (dC, dI) (va_A (wc_c_M_drops cyB cyI cyJ cyZ cyO h1 md g x1) sz) ([]) t.heap) (va_A (wc_c_M_drops cyB cyI cyJ cyZ cyO h1 md g x1) sz)) 0 0 (va_A (wc_c_M_drops cyB cyI cyJ cyZ cyO h1 md g x1) sz) := by
  refine Met.ofW (cc := cX7_drops) (maxL := 2) (ret := (some .int)) (by decide) rfl ?_
  intro p e s m args below meth c s₁ B hml hv
  obtain ⟨rfl, hsz, hP, hKN, hD0⟩ := hv
  have hx := B.exec
  have hb := B.bytes
  have hr := B.returns
  have hts := atoms_spec (ws := wq_c_M_drops) B.pre
  have hown : s.vm.findClass RX7 = some m.cls := findClass_of_methodNamed B.named
  have hlocks := B.notSynchronized
  have hK := hKN.1
  have hfix : CallFix p m c cX7_drops 2 s [.ref h1, .int x1].toArray wq_c_M_drops RX7 := ⟨hx, hb, hml, hown, hts⟩
  subst hsz
  have hD := hD0.self (sz := s.heap.size)
  generalize hAe : va_A (wc_c_M_drops cyB cyI cyJ cyZ cyO h1 md g x1) s.heap.size = A at hD ⊢
  have hA : ∀ q : Nat, s.heap.size ≤ q → A q := fun q h => by rw [← hAe]; exact Or.inr h
  have hS : va_S A s.heap s.heap [] := va_S.rf
  have hl := lv_entry ([.ref h1, .int x1]) (n := 2) (Nat.le_of_ble_eq_true rfl)
  rw [lg_entry_eq]
  generalize (lg_sl ([.ref h1, .int x1]) ++ List.replicate (2 - (lg_sl ([.ref h1, .int x1])).length) Slot.unset).toArray = ls at hl ⊢
  have hl : lv_has ls 2 [(0, .ref h1), (1, .int x1)] := hl
  refine lv_iload_n hx hb dX7_drops_0 rfl (lv_at hl 1 rfl) ?_
  refine lv_aload_n hx hb dX7_drops_1 rfl (lv_at hl 0 rfl) ?_
  refine gf_i (wr := []) (va_runV (As := []) (rest := [.int x1]) hfix (k_X7_membersSet l dC dI cyB cyI cyJ cyZ cyO h1 md g _ hg) (cwV 0 hts (gi_V (ow_m (k := 0) rfl) (ow_m (k := 1) rfl) (ow_m (k := 2) rfl) (ow_m (k := 3) rfl) (sb_c sb_l) gd_k_X7_membersSet) rfl rfl rfl (by decide +kernel) ⟨Nat.le_of_ble_eq_true rfl, Nat.le_of_ble_eq_true rfl⟩) (g_preV hKN hP hD [0, 1] rfl (by decide) 0 7 rfl rfl) rfl rfl hl.1 rfl (lv_room (Nat.le_of_ble_eq_true rfl)) dX7_drops_2 ⟨Nat.le_of_ble_eq_true rfl, Nat.le_of_ble_eq_true rfl⟩) hP hD hS hA [0, 1] [] rfl rfl (by decide) (by decide) (fun r2512 u2513 H locs qu2513 hP hD hS => ?_)
  have hP : va_P (dC, dI) vwCl [(h1, .inr (7, [.ref (md 0), .ref (md 1), .int 0, .int 0, .int 0, .int (-1), .int 0, .int 0, .int 0, .int 0, .long 0, .ref (md 11), .ref (md 12), .ref (md 13), .ref (md 14), .ref (md 15), .ref (md 16), .ref (md 17), .ref (md 18), .ref (md 19), .ref (md 20), .ref (md 21), .ref (md 22), .ref (md 23), .ref (md 24), .ref (md 25), .ref (md 26), .ref (md 27), .ref (md 28), .int 0, .int 0, .int 0, .int 0, .int 0, .int 0, .int 0, .int 0, .int 0, .int 0, .int 0, .ref (md 40), .ref (md 41), .int 0, .int 0, .ref (md 44), .int 0, .int 0, .ref (md 47), .ref (md 48), .int 0, .ref (md 50), .ref (md 51), .ref (md 52), .ref (md 53), .ref (md 54), .int 0, .int 0, .ref (md 57), .ref (md 58)])), (md 40, .inl (cyI, 520, .inl g))] H := hP
  have hD : va_D A [(h1, .inr (7, [.ref (md 0), .ref (md 1), .int 0, .int 0, .int 0, .int (-1), .int 0, .int 0, .int 0, .int 0, .long 0, .ref (md 11), .ref (md 12), .ref (md 13), .ref (md 14), .ref (md 15), .ref (md 16), .ref (md 17), .ref (md 18), .ref (md 19), .ref (md 20), .ref (md 21), .ref (md 22), .ref (md 23), .ref (md 24), .ref (md 25), .ref (md 26), .ref (md 27), .ref (md 28), .int 0, .int 0, .int 0, .int 0, .int 0, .int 0, .int 0, .int 0, .int 0, .int 0, .int 0, .ref (md 40), .ref (md 41), .int 0, .int 0, .ref (md 44), .int 0, .int 0, .ref (md 47), .ref (md 48), .int 0, .ref (md 50), .ref (md 51), .ref (md 52), .ref (md 53), .ref (md 54), .int 0, .int 0, .ref (md 57), .ref (md 58)])), (md 40, .inl (cyI, 520, .inl g))] := hD
  refine tp_c (w := 0) qu2513 ?_
  refine lv_iconst (v := (-1)) hx hb dX7_drops_5 (by decide) ?_
  refine lv_ixor hx hb dX7_drops_6 ?_
  refine tp_c (w := (-1)) (by decide) ?_
  refine lv_iand hx hb dX7_drops_7 ?_
  refine tp_c (w := x1) (and_m1 x1) ?_
  refine lv_if_ne (tgt := 33) hx hb dX7_drops_8 (by decide) (fun c2514 => ?_) (fun c2514 => ?_)
  · have c2514 := i_ne (a := x1.toInt) (b := 0) c2514 rfl (by decide)
    refine lv_iconst (v := (-1)) hx hb dX7_drops_33 (by decide) ?_
    exact W.iret (v := (-1)) hx hb hr (fun t ht hW => ⟨⟨(-1), (), rfl, rfl, cE.nil⟩, hS.F ht⟩) hS.2.2 dX7_drops_34
  · have c2514 := i_eq (a := x1.toInt) (b := 0) c2514 rfl (by decide)
    refine lv_iload_n hx hb dX7_drops_11 rfl (lv_at hl 1 rfl) ?_
    refine lv_aload_n hx hb dX7_drops_12 rfl (lv_at hl 0 rfl) ?_
    refine gf_i (wr := []) (va_runV (As := []) (rest := [.int x1]) hfix (k_X7_membersSet l dC dI cyB cyI cyJ cyZ cyO h1 md g _ hg) (cwV 0 hts (gi_V (ow_m (k := 0) rfl) (ow_m (k := 1) rfl) (ow_m (k := 2) rfl) (ow_m (k := 3) rfl) (sb_c sb_l) gd_k_X7_membersSet) rfl rfl rfl (by decide +kernel) ⟨Nat.le_of_ble_eq_true rfl, Nat.le_of_ble_eq_true rfl⟩) (g_preV hKN hP hD [0, 1] rfl (by decide) 0 7 rfl rfl) rfl rfl hl.1 rfl (lv_room (Nat.le_of_ble_eq_true rfl)) dX7_drops_13 ⟨Nat.le_of_ble_eq_true rfl, Nat.le_of_ble_eq_true rfl⟩) hP hD hS hA [0, 1] [] rfl rfl (by decide) (by decide) (fun r2520 u2521 H locs qu2521 hP hD hS => ?_)
    have hP : va_P (dC, dI) vwCl [(h1, .inr (7, [.ref (md 0), .ref (md 1), .int 0, .int 0, .int 0, .int (-1), .int 0, .int 0, .int 0, .int 0, .long 0, .ref (md 11), .ref (md 12), .ref (md 13), .ref (md 14), .ref (md 15), .ref (md 16), .ref (md 17), .ref (md 18), .ref (md 19), .ref (md 20), .ref (md 21), .ref (md 22), .ref (md 23), .ref (md 24), .ref (md 25), .ref (md 26), .ref (md 27), .ref (md 28), .int 0, .int 0, .int 0, .int 0, .int 0, .int 0, .int 0, .int 0, .int 0, .int 0, .int 0, .ref (md 40), .ref (md 41), .int 0, .int 0, .ref (md 44), .int 0, .int 0, .ref (md 47), .ref (md 48), .int 0, .ref (md 50), .ref (md 51), .ref (md 52), .ref (md 53), .ref (md 54), .int 0, .int 0, .ref (md 57), .ref (md 58)])), (md 40, .inl (cyI, 520, .inl g))] H := hP
    have hD : va_D A [(h1, .inr (7, [.ref (md 0), .ref (md 1), .int 0, .int 0, .int 0, .int (-1), .int 0, .int 0, .int 0, .int 0, .long 0, .ref (md 11), .ref (md 12), .ref (md 13), .ref (md 14), .ref (md 15), .ref (md 16), .ref (md 17), .ref (md 18), .ref (md 19), .ref (md 20), .ref (md 21), .ref (md 22), .ref (md 23), .ref (md 24), .ref (md 25), .ref (md 26), .ref (md 27), .ref (md 28), .int 0, .int 0, .int 0, .int 0, .int 0, .int 0, .int 0, .int 0, .int 0, .int 0, .int 0, .ref (md 40), .ref (md 41), .int 0, .int 0, .ref (md 44), .int 0, .int 0, .ref (md 47), .ref (md 48), .int 0, .ref (md 50), .ref (md 51), .ref (md 52), .ref (md 53), .ref (md 54), .int 0, .int 0, .ref (md 57), .ref (md 58)])), (md 40, .inl (cyI, 520, .inl g))] := hD
    refine tp_c (w := 0) qu2521 ?_
    refine lv_icmp_eq (tgt := 33) hx hb dX7_drops_16 (by decide) (fun c2522 => ?_) (fun c2522 => ?_)
    · have c2522 := i_eq (a := x1.toInt) (b := 0) c2522 rfl (by decide)
      refine lv_iconst (v := (-1)) hx hb dX7_drops_33 (by decide) ?_
      exact W.iret (v := (-1)) hx hb hr (fun t ht hW => ⟨⟨(-1), (), rfl, rfl, cE.nil⟩, hS.F ht⟩) hS.2.2 dX7_drops_34
    · have c2522 := i_ne (a := x1.toInt) (b := 0) c2522 rfl (by decide)
      exfalso; omega
def wo_k_X7_isIn_v5 : List Cond := []
def wq_k_X7_isIn_v5 : List Cond := .code yX7_isIn cX7_isIn 3 (some .boolean) :: (wo_k_X7_isIn_v5 ++ [])
theorem gd_k_X7_isIn_v5 : Gd wq_k_X7_isIn_v5 := gd_c (gd_a (gd_o (by decide +kernel)) gd_0)
abbrev wc_k_X7_isIn_v5 (cyB cyI cyJ cyZ cyO : ClassId) (a0 : Int32) : va_W := []
set_option maxHeartbeats 4000000 in
set_option maxRecDepth 100000 in
theorem k_X7_isIn_v5 (l : Launch) (dC : Nat → ClassId) (dI : Nat → Nat → Nat) (cyB cyI cyJ cyZ cyO : ClassId) (a0 : Int32) (sz : Nat) : Met l yX7_isIn wq_k_X7_isIn_v5 ({ frames := 0, cells := 0, slots := 0, locals := 0 }) (va_Pc [.int a0, .int 1, .int 5] (cB (dC, dI) (kT cyB cyI cyJ cyZ cyO) (wc_k_X7_isIn_v5 cyB cyI cyJ cyZ cyO a0) sz)) (va_Qi (fun (r : Int32) _ => (r = 0 ∧ a0.toInt < 1) ∨ (r = 0 ∧ 1 ≤ a0.toInt ∧ 5 < a0.toInt) ∨ (r = 1 ∧ 1 ≤ a0.toInt ∧ a0.toInt ≤ 5)) (fun (u : Unit) t => cE (dC, dI) (va_A (wc_k_X7_isIn_v5 cyB cyI cyJ cyZ cyO a0) sz) ([]) t.heap) (va_A (wc_k_X7_isIn_v5 cyB cyI cyJ cyZ cyO a0) sz)) 0 0 (va_A (wc_k_X7_isIn_v5 cyB cyI cyJ cyZ cyO a0) sz) := by
  refine Met.ofW (cc := cX7_isIn) (maxL := 3) (ret := (some .boolean)) (by decide) rfl ?_
  intro p e s m args below meth c s₁ B hml hv
  obtain ⟨rfl, hsz, hP, hKN, hD0⟩ := hv
  have hx := B.exec
  have hb := B.bytes
  have hr := B.returns
  have hts := atoms_spec (ws := wq_k_X7_isIn_v5) B.pre
  have hown : s.vm.findClass RX7 = some m.cls := findClass_of_methodNamed B.named
  have hlocks := B.notSynchronized
  have hK := hKN.1
  have hfix : CallFix p m c cX7_isIn 3 s [.int a0, .int 1, .int 5].toArray wq_k_X7_isIn_v5 RX7 := ⟨hx, hb, hml, hown, hts⟩
  subst hsz
  have hD := hD0.self (sz := s.heap.size)
  generalize hAe : va_A (wc_k_X7_isIn_v5 cyB cyI cyJ cyZ cyO a0) s.heap.size = A at hD ⊢
  have hA : ∀ q : Nat, s.heap.size ≤ q → A q := fun q h => by rw [← hAe]; exact Or.inr h
  have hS : va_S A s.heap s.heap [] := va_S.rf
  have hl := lv_entry ([.int a0, .int 1, .int 5]) (n := 3) (Nat.le_of_ble_eq_true rfl)
  rw [lg_entry_eq]
  generalize (lg_sl ([.int a0, .int 1, .int 5]) ++ List.replicate (3 - (lg_sl ([.int a0, .int 1, .int 5])).length) Slot.unset).toArray = ls at hl ⊢
  have hl : lv_has ls 3 [(0, .int a0), (1, .int 1), (2, .int 5)] := hl
  refine lv_iload_n hx hb dX7_isIn_0 rfl (lv_at hl 0 rfl) ?_
  refine lv_iload_n hx hb dX7_isIn_1 rfl (lv_at hl 1 rfl) ?_
  refine lv_icmp_lt (tgt := 14) hx hb dX7_isIn_2 (by decide) (fun c2525 => ?_) (fun c2525 => ?_)
  · have c2525 := i_lt (a := a0.toInt) (b := 1) c2525 rfl (by decide)
    refine lv_iconst (v := 0) hx hb dX7_isIn_14 (by decide) ?_
    exact W.zret (v := 0) hx hb hr (by decide) (fun t ht hW => ⟨⟨0, (), rfl, (Or.inl ⟨rfl, c2525⟩), cE.of ht hP hD [] (by decide) rfl⟩, hS.F ht⟩) hS.2.2 dX7_isIn_15
  · have c2525 := i_nlt (a := a0.toInt) (b := 1) c2525 rfl (by decide)
    refine lv_iload_n hx hb dX7_isIn_5 rfl (lv_at hl 0 rfl) ?_
    refine lv_iload_n hx hb dX7_isIn_6 rfl (lv_at hl 2 rfl) ?_
    refine lv_icmp_gt (tgt := 14) hx hb dX7_isIn_7 (by decide) (fun c2526 => ?_) (fun c2526 => ?_)
    · have c2526 := i_lt (a := 5) (b := a0.toInt) c2526 (by decide) rfl
      refine lv_iconst (v := 0) hx hb dX7_isIn_14 (by decide) ?_
      exact W.zret (v := 0) hx hb hr (by decide) (fun t ht hW => ⟨⟨0, (), rfl, (Or.inr (Or.inl ⟨rfl, c2525, c2526⟩)), cE.of ht hP hD [] (by decide) rfl⟩, hS.F ht⟩) hS.2.2 dX7_isIn_15
    · have c2526 := i_nlt (a := 5) (b := a0.toInt) c2526 (by decide) rfl
      refine lv_iconst (v := 1) hx hb dX7_isIn_10 (by decide) ?_
      refine lv_goto (tgt := 15) hx hb dX7_isIn_11 (by decide) ?_
      exact W.zret (v := 1) hx hb hr (by decide) (fun t ht hW => ⟨⟨1, (), rfl, (Or.inr (Or.inr ⟨rfl, c2525, c2526⟩)), cE.of ht hP hD [] (by decide) rfl⟩, hS.F ht⟩) hS.2.2 dX7_isIn_15
def wo_c_M_worst : List Cond := [.methodLink RX7 316 yX7_isIn, .static yX7_isIn, .initialized RX7, .methodLink RX7 313 yX7_lots, .instanceMethod yX7_lots, .selects RX7 yX7_lots yX7_lots]
def wq_c_M_worst : List Cond := .code yX7_worst cX7_worst 5 (some .int) :: (wo_c_M_worst ++ (wq_k_X7_isIn_v5 ++ (wq_k_X7_isIn_v4 ++ (wq_k_X7_lots_v5 ++ []))))
theorem gd_c_M_worst : Gd wq_c_M_worst := gd_c (gd_a (gd_o (by decide +kernel)) (gd_a gd_k_X7_isIn_v5 (gd_a gd_k_X7_isIn_v4 (gd_a gd_k_X7_lots_v5 gd_0))))
abbrev wc_c_M_worst (cyB cyI cyJ cyZ cyO : ClassId) (h1 : Nat) (md : Nat → Nat) (g : Nat → Int32) (x1 : Int32) (x2 : Int32) : va_W := [(h1, .inr (7, [.ref (md 0), .ref (md 1), .int 0, .int 0, .int 0, .int (-1), .int 0, .int 0, .int 0, .int 0, .long 0, .ref (md 11), .ref (md 12), .ref (md 13), .ref (md 14), .ref (md 15), .ref (md 16), .ref (md 17), .ref (md 18), .ref (md 19), .ref (md 20), .ref (md 21), .ref (md 22), .ref (md 23), .ref (md 24), .ref (md 25), .ref (md 26), .ref (md 27), .ref (md 28), .int 0, .int 0, .int 0, .int 0, .int 0, .int 0, .int 0, .int 0, .int 0, .int 0, .int 0, .ref (md 40), .ref (md 41), .int 0, .int 0, .ref (md 44), .int 0, .int 0, .ref (md 47), .ref (md 48), .int 0, .ref (md 50), .ref (md 51), .ref (md 52), .ref (md 53), .ref (md 54), .int 0, .int 0, .ref (md 57), .ref (md 58)])), (md 40, .inl (cyI, 520, .inl g))]
set_option maxHeartbeats 4000000 in
set_option maxRecDepth 100000 in
theorem c_M_worst (l : Launch) (dC : Nat → ClassId) (dI : Nat → Nat → Nat) (cyB cyI cyJ cyZ cyO : ClassId) (h1 : Nat) (md : Nat → Nat) (g : Nat → Int32) (x1 : Int32) (x2 : Int32) (sz : Nat) (hg : AllZ g) : Met l yX7_worst wq_c_M_worst ({ frames := 1, cells := 0, slots := 0, locals := 22 }) (va_Pc [.ref h1, .int x1, .int x2] (cB (dC, dI) (kT cyB cyI cyJ cyZ cyO) (wc_c_M_worst cyB cyI cyJ cyZ cyO h1 md g x1 x2) sz)) (va_Qi (fun (r : Int32) (_ : Unit) => r = -1) (fun (u : Unit) t => cE (dC, dI) (va_A (wc_c_M_worst cyB cyI cyJ cyZ cyO h1 md g x1 x2) sz) ([]) t.heap) (va_A (wc_c_M_worst cyB cyI cyJ cyZ cyO h1 md g x1 x2) sz)) 0 0 (va_A (wc_c_M_worst cyB cyI cyJ cyZ cyO h1 md g x1 x2) sz) := by
  refine Met.ofW (cc := cX7_worst) (maxL := 5) (ret := (some .int)) (by decide) rfl ?_
  intro p e s m args below meth c s₁ B hml hv
  obtain ⟨rfl, hsz, hP, hKN, hD0⟩ := hv
  have hx := B.exec
  have hb := B.bytes
  have hr := B.returns
  have hts := atoms_spec (ws := wq_c_M_worst) B.pre
  have hown : s.vm.findClass RX7 = some m.cls := findClass_of_methodNamed B.named
  have hlocks := B.notSynchronized
  have hK := hKN.1
  have hfix : CallFix p m c cX7_worst 5 s [.ref h1, .int x1, .int x2].toArray wq_c_M_worst RX7 := ⟨hx, hb, hml, hown, hts⟩
  subst hsz
  have hD := hD0.self (sz := s.heap.size)
  generalize hAe : va_A (wc_c_M_worst cyB cyI cyJ cyZ cyO h1 md g x1 x2) s.heap.size = A at hD ⊢
  have hA : ∀ q : Nat, s.heap.size ≤ q → A q := fun q h => by rw [← hAe]; exact Or.inr h
  have hS : va_S A s.heap s.heap [] := va_S.rf
  have hl := lv_entry ([.ref h1, .int x1, .int x2]) (n := 5) (Nat.le_of_ble_eq_true rfl)
  rw [lg_entry_eq]
  generalize (lg_sl ([.ref h1, .int x1, .int x2]) ++ List.replicate (5 - (lg_sl ([.ref h1, .int x1, .int x2])).length) Slot.unset).toArray = ls at hl ⊢
  have hl : lv_has ls 5 [(0, .ref h1), (1, .int x1), (2, .int x2)] := hl
  refine lv_iload_n hx hb dX7_worst_0 rfl (lv_at hl 1 rfl) ?_
  refine lv_iconst (v := 1) hx hb dX7_worst_1 (by decide) ?_
  refine lv_iconst (v := 5) hx hb dX7_worst_2 (by decide) ?_
  refine gf_i (wr := [(h1, .inr (7, [.ref (md 0), .ref (md 1), .int 0, .int 0, .int 0, .int (-1), .int 0, .int 0, .int 0, .int 0, .long 0, .ref (md 11), .ref (md 12), .ref (md 13), .ref (md 14), .ref (md 15), .ref (md 16), .ref (md 17), .ref (md 18), .ref (md 19), .ref (md 20), .ref (md 21), .ref (md 22), .ref (md 23), .ref (md 24), .ref (md 25), .ref (md 26), .ref (md 27), .ref (md 28), .int 0, .int 0, .int 0, .int 0, .int 0, .int 0, .int 0, .int 0, .int 0, .int 0, .int 0, .ref (md 40), .ref (md 41), .int 0, .int 0, .ref (md 44), .int 0, .int 0, .ref (md 47), .ref (md 48), .int 0, .ref (md 50), .ref (md 51), .ref (md 52), .ref (md 53), .ref (md 54), .int 0, .int 0, .ref (md 57), .ref (md 58)])), (md 40, .inl (cyI, 520, .inl g))]) (va_runS (As := [.int x1, .int 1, .int 5]) (rest := []) hfix (k_X7_isIn_v5 l dC dI cyB cyI cyJ cyZ cyO x1 _) (va_cwS 3 hts (gi_S (ow_m (k := 0) rfl) (ow_m (k := 1) rfl) (ow_m (k := 2) rfl) (sb_c sb_l) gd_k_X7_isIn_v5) rfl rfl rfl (by decide +kernel) ⟨Nat.le_of_ble_eq_true rfl, Nat.le_of_ble_eq_true rfl⟩) (g_preS hKN hP hD [] rfl (by decide)) rfl rfl hl.1 rfl (lv_room (Nat.le_of_ble_eq_true rfl)) dX7_worst_3 ⟨Nat.le_of_ble_eq_true rfl, Nat.le_of_ble_eq_true rfl⟩) hP hD hS hA [] [0, 1] rfl rfl (by decide) (by decide) (fun r2554 u2555 H locs qu2555 hP hD hS => ?_)
  have hP : va_P (dC, dI) vwCl [(h1, .inr (7, [.ref (md 0), .ref (md 1), .int 0, .int 0, .int 0, .int (-1), .int 0, .int 0, .int 0, .int 0, .long 0, .ref (md 11), .ref (md 12), .ref (md 13), .ref (md 14), .ref (md 15), .ref (md 16), .ref (md 17), .ref (md 18), .ref (md 19), .ref (md 20), .ref (md 21), .ref (md 22), .ref (md 23), .ref (md 24), .ref (md 25), .ref (md 26), .ref (md 27), .ref (md 28), .int 0, .int 0, .int 0, .int 0, .int 0, .int 0, .int 0, .int 0, .int 0, .int 0, .int 0, .ref (md 40), .ref (md 41), .int 0, .int 0, .ref (md 44), .int 0, .int 0, .ref (md 47), .ref (md 48), .int 0, .ref (md 50), .ref (md 51), .ref (md 52), .ref (md 53), .ref (md 54), .int 0, .int 0, .ref (md 57), .ref (md 58)])), (md 40, .inl (cyI, 520, .inl g))] H := hP
  have hD : va_D A [(h1, .inr (7, [.ref (md 0), .ref (md 1), .int 0, .int 0, .int 0, .int (-1), .int 0, .int 0, .int 0, .int 0, .long 0, .ref (md 11), .ref (md 12), .ref (md 13), .ref (md 14), .ref (md 15), .ref (md 16), .ref (md 17), .ref (md 18), .ref (md 19), .ref (md 20), .ref (md 21), .ref (md 22), .ref (md 23), .ref (md 24), .ref (md 25), .ref (md 26), .ref (md 27), .ref (md 28), .int 0, .int 0, .int 0, .int 0, .int 0, .int 0, .int 0, .int 0, .int 0, .int 0, .int 0, .ref (md 40), .ref (md 41), .int 0, .int 0, .ref (md 44), .int 0, .int 0, .ref (md 47), .ref (md 48), .int 0, .ref (md 50), .ref (md 51), .ref (md 52), .ref (md 53), .ref (md 54), .int 0, .int 0, .ref (md 57), .ref (md 58)])), (md 40, .inl (cyI, 520, .inl g))] := hD
  rcases qu2555 with ⟨rfl, b2556⟩ | ⟨rfl, b2557, b2558⟩ | ⟨rfl, b2559, b2560⟩
  · skip
    refine lv_if_eq (tgt := 26) hx hb dX7_worst_6 (by decide) (fun _ => ?_) (fun c2561 => absurd (by decide) c2561)
    refine lv_iconst (v := (-1)) hx hb dX7_worst_26 (by decide) ?_
    exact W.iret (v := (-1)) hx hb hr (fun t ht hW => ⟨⟨(-1), (), rfl, rfl, cE.nil⟩, hS.F ht⟩) hS.2.2 dX7_worst_27
  · skip
    refine lv_if_eq (tgt := 26) hx hb dX7_worst_6 (by decide) (fun _ => ?_) (fun c2562 => absurd (by decide) c2562)
    refine lv_iconst (v := (-1)) hx hb dX7_worst_26 (by decide) ?_
    exact W.iret (v := (-1)) hx hb hr (fun t ht hW => ⟨⟨(-1), (), rfl, rfl, cE.nil⟩, hS.F ht⟩) hS.2.2 dX7_worst_27
  · skip
    refine lv_if_eq (tgt := 26) hx hb dX7_worst_6 (by decide) (fun c2563 => absurd c2563 (by decide)) (fun _ => ?_)
    refine lv_iload_n hx hb dX7_worst_9 rfl (lv_at hl 2 rfl) ?_
    refine lv_iconst (v := 0) hx hb dX7_worst_10 (by decide) ?_
    refine lv_iconst (v := 1) hx hb dX7_worst_11 (by decide) ?_
    refine gf_i (wr := [(h1, .inr (7, [.ref (md 0), .ref (md 1), .int 0, .int 0, .int 0, .int (-1), .int 0, .int 0, .int 0, .int 0, .long 0, .ref (md 11), .ref (md 12), .ref (md 13), .ref (md 14), .ref (md 15), .ref (md 16), .ref (md 17), .ref (md 18), .ref (md 19), .ref (md 20), .ref (md 21), .ref (md 22), .ref (md 23), .ref (md 24), .ref (md 25), .ref (md 26), .ref (md 27), .ref (md 28), .int 0, .int 0, .int 0, .int 0, .int 0, .int 0, .int 0, .int 0, .int 0, .int 0, .int 0, .ref (md 40), .ref (md 41), .int 0, .int 0, .ref (md 44), .int 0, .int 0, .ref (md 47), .ref (md 48), .int 0, .ref (md 50), .ref (md 51), .ref (md 52), .ref (md 53), .ref (md 54), .int 0, .int 0, .ref (md 57), .ref (md 58)])), (md 40, .inl (cyI, 520, .inl g))]) (va_runS (As := [.int x2, .int 0, .int 1]) (rest := []) hfix (k_X7_isIn_v4 l dC dI cyB cyI cyJ cyZ cyO x2 _) (va_cwS 3 hts (gi_S (ow_m (k := 0) rfl) (ow_m (k := 1) rfl) (ow_m (k := 2) rfl) (sb_c (sb_r sb_l)) gd_k_X7_isIn_v4) rfl rfl rfl (by decide +kernel) ⟨Nat.le_of_ble_eq_true rfl, Nat.le_of_ble_eq_true rfl⟩) (g_preS hKN hP hD [] rfl (by decide)) rfl rfl hl.1 rfl (lv_room (Nat.le_of_ble_eq_true rfl)) dX7_worst_12 ⟨Nat.le_of_ble_eq_true rfl, Nat.le_of_ble_eq_true rfl⟩) hP hD hS hA [] [0, 1] rfl rfl (by decide) (by decide) (fun r2566 u2567 H locs qu2567 hP hD hS => ?_)
    have hP : va_P (dC, dI) vwCl [(h1, .inr (7, [.ref (md 0), .ref (md 1), .int 0, .int 0, .int 0, .int (-1), .int 0, .int 0, .int 0, .int 0, .long 0, .ref (md 11), .ref (md 12), .ref (md 13), .ref (md 14), .ref (md 15), .ref (md 16), .ref (md 17), .ref (md 18), .ref (md 19), .ref (md 20), .ref (md 21), .ref (md 22), .ref (md 23), .ref (md 24), .ref (md 25), .ref (md 26), .ref (md 27), .ref (md 28), .int 0, .int 0, .int 0, .int 0, .int 0, .int 0, .int 0, .int 0, .int 0, .int 0, .int 0, .ref (md 40), .ref (md 41), .int 0, .int 0, .ref (md 44), .int 0, .int 0, .ref (md 47), .ref (md 48), .int 0, .ref (md 50), .ref (md 51), .ref (md 52), .ref (md 53), .ref (md 54), .int 0, .int 0, .ref (md 57), .ref (md 58)])), (md 40, .inl (cyI, 520, .inl g))] H := hP
    have hD : va_D A [(h1, .inr (7, [.ref (md 0), .ref (md 1), .int 0, .int 0, .int 0, .int (-1), .int 0, .int 0, .int 0, .int 0, .long 0, .ref (md 11), .ref (md 12), .ref (md 13), .ref (md 14), .ref (md 15), .ref (md 16), .ref (md 17), .ref (md 18), .ref (md 19), .ref (md 20), .ref (md 21), .ref (md 22), .ref (md 23), .ref (md 24), .ref (md 25), .ref (md 26), .ref (md 27), .ref (md 28), .int 0, .int 0, .int 0, .int 0, .int 0, .int 0, .int 0, .int 0, .int 0, .int 0, .int 0, .ref (md 40), .ref (md 41), .int 0, .int 0, .ref (md 44), .int 0, .int 0, .ref (md 47), .ref (md 48), .int 0, .ref (md 50), .ref (md 51), .ref (md 52), .ref (md 53), .ref (md 54), .int 0, .int 0, .ref (md 57), .ref (md 58)])), (md 40, .inl (cyI, 520, .inl g))] := hD
    rcases qu2567 with ⟨rfl, b2568⟩ | ⟨rfl, b2569, b2570⟩ | ⟨rfl, b2571, b2572⟩
    · skip
      refine lv_if_eq (tgt := 26) hx hb dX7_worst_15 (by decide) (fun _ => ?_) (fun c2573 => absurd (by decide) c2573)
      refine lv_iconst (v := (-1)) hx hb dX7_worst_26 (by decide) ?_
      exact W.iret (v := (-1)) hx hb hr (fun t ht hW => ⟨⟨(-1), (), rfl, rfl, cE.nil⟩, hS.F ht⟩) hS.2.2 dX7_worst_27
    · skip
      refine lv_if_eq (tgt := 26) hx hb dX7_worst_15 (by decide) (fun _ => ?_) (fun c2574 => absurd (by decide) c2574)
      refine lv_iconst (v := (-1)) hx hb dX7_worst_26 (by decide) ?_
      exact W.iret (v := (-1)) hx hb hr (fun t ht hW => ⟨⟨(-1), (), rfl, rfl, cE.nil⟩, hS.F ht⟩) hS.2.2 dX7_worst_27
    · skip
      refine lv_if_eq (tgt := 26) hx hb dX7_worst_15 (by decide) (fun c2575 => absurd c2575 (by decide)) (fun _ => ?_)
      refine lv_iload_n hx hb dX7_worst_18 rfl (lv_at hl 1 rfl) ?_
      refine lv_aload_n hx hb dX7_worst_19 rfl (lv_at hl 0 rfl) ?_
      refine gf_i (wr := []) (va_runV (As := []) (rest := [.int x1]) hfix (k_X7_lots_v5 l dC dI cyB cyI cyJ cyZ cyO h1 md g _ hg) (cwV 0 hts (gi_V (ow_m (k := 3) rfl) (ow_m (k := 4) rfl) (ow_m (k := 5) rfl) (ow_m (k := 2) rfl) (sb_c (sb_r (sb_r sb_l))) gd_k_X7_lots_v5) rfl rfl rfl (by decide +kernel) ⟨Nat.le_of_ble_eq_true rfl, Nat.le_of_ble_eq_true rfl⟩) (g_preV hKN hP hD [0, 1] rfl (by decide) 0 7 rfl rfl) rfl rfl hl.1 rfl (lv_room (Nat.le_of_ble_eq_true rfl)) dX7_worst_20 ⟨Nat.le_of_ble_eq_true rfl, Nat.le_of_ble_eq_true rfl⟩) hP hD hS hA [0, 1] [] rfl rfl (by decide) (by decide) (fun r2576 u2577 H locs qu2577 hP hD hS => ?_)
      have hP : va_P (dC, dI) vwCl [(h1, .inr (7, [.ref (md 0), .ref (md 1), .int 0, .int 0, .int 0, .int (-1), .int 0, .int 0, .int 0, .int 0, .long 0, .ref (md 11), .ref (md 12), .ref (md 13), .ref (md 14), .ref (md 15), .ref (md 16), .ref (md 17), .ref (md 18), .ref (md 19), .ref (md 20), .ref (md 21), .ref (md 22), .ref (md 23), .ref (md 24), .ref (md 25), .ref (md 26), .ref (md 27), .ref (md 28), .int 0, .int 0, .int 0, .int 0, .int 0, .int 0, .int 0, .int 0, .int 0, .int 0, .int 0, .ref (md 40), .ref (md 41), .int 0, .int 0, .ref (md 44), .int 0, .int 0, .ref (md 47), .ref (md 48), .int 0, .ref (md 50), .ref (md 51), .ref (md 52), .ref (md 53), .ref (md 54), .int 0, .int 0, .ref (md 57), .ref (md 58)])), (md 40, .inl (cyI, 520, .inl g))] H := hP
      have hD : va_D A [(h1, .inr (7, [.ref (md 0), .ref (md 1), .int 0, .int 0, .int 0, .int (-1), .int 0, .int 0, .int 0, .int 0, .long 0, .ref (md 11), .ref (md 12), .ref (md 13), .ref (md 14), .ref (md 15), .ref (md 16), .ref (md 17), .ref (md 18), .ref (md 19), .ref (md 20), .ref (md 21), .ref (md 22), .ref (md 23), .ref (md 24), .ref (md 25), .ref (md 26), .ref (md 27), .ref (md 28), .int 0, .int 0, .int 0, .int 0, .int 0, .int 0, .int 0, .int 0, .int 0, .int 0, .int 0, .ref (md 40), .ref (md 41), .int 0, .int 0, .ref (md 44), .int 0, .int 0, .ref (md 47), .ref (md 48), .int 0, .ref (md 50), .ref (md 51), .ref (md 52), .ref (md 53), .ref (md 54), .int 0, .int 0, .ref (md 57), .ref (md 58)])), (md 40, .inl (cyI, 520, .inl g))] := hD
      refine tp_c (w := 0) qu2577 ?_
      refine lv_icmp_lt (tgt := 28) hx hb dX7_worst_23 (by decide) (fun c2578 => ?_) (fun c2578 => ?_)
      · have c2578 := i_lt (a := x1.toInt) (b := 0) c2578 rfl (by decide)
        exfalso; omega
      · have c2578 := i_nlt (a := x1.toInt) (b := 0) c2578 rfl (by decide)
        refine lv_iconst (v := (-1)) hx hb dX7_worst_26 (by decide) ?_
        exact W.iret (v := (-1)) hx hb hr (fun t ht hW => ⟨⟨(-1), (), rfl, rfl, cE.nil⟩, hS.F ht⟩) hS.2.2 dX7_worst_27
def wo_c_M_safe : List Cond := [.methodLink RX7 313 yX7_lots, .instanceMethod yX7_lots, .selects RX7 yX7_lots yX7_lots, .initialized RX7]
def wq_c_M_safe : List Cond := .code yX7_safe cX7_safe 3 (some .int) :: (wo_c_M_safe ++ (wq_k_X7_lots_v5 ++ []))
theorem gd_c_M_safe : Gd wq_c_M_safe := gd_c (gd_a (gd_o (by decide +kernel)) (gd_a gd_k_X7_lots_v5 gd_0))
abbrev wc_c_M_safe (cyB cyI cyJ cyZ cyO : ClassId) (h1 : Nat) (md : Nat → Nat) (g : Nat → Int32) : va_W := [(h1, .inr (7, [.ref (md 0), .ref (md 1), .int 0, .int 0, .int 0, .int (-1), .int 0, .int 0, .int 0, .int 0, .long 0, .ref (md 11), .ref (md 12), .ref (md 13), .ref (md 14), .ref (md 15), .ref (md 16), .ref (md 17), .ref (md 18), .ref (md 19), .ref (md 20), .ref (md 21), .ref (md 22), .ref (md 23), .ref (md 24), .ref (md 25), .ref (md 26), .ref (md 27), .ref (md 28), .int 0, .int 0, .int 0, .int 0, .int 0, .int 0, .int 0, .int 0, .int 0, .int 0, .int 0, .ref (md 40), .ref (md 41), .int 0, .int 0, .ref (md 44), .int 0, .int 0, .ref (md 47), .ref (md 48), .int 0, .ref (md 50), .ref (md 51), .ref (md 52), .ref (md 53), .ref (md 54), .int 0, .int 0, .ref (md 57), .ref (md 58)])), (md 40, .inl (cyI, 520, .inl g))]
set_option maxHeartbeats 4000000 in
set_option maxRecDepth 100000 in
theorem c_M_safe (l : Launch) (dC : Nat → ClassId) (dI : Nat → Nat → Nat) (cyB cyI cyJ cyZ cyO : ClassId) (h1 : Nat) (md : Nat → Nat) (g : Nat → Int32) (sz : Nat) (hg : AllZ g) : Met l yX7_safe wq_c_M_safe ({ frames := 1, cells := 0, slots := 0, locals := 20 }) (va_Pc [.ref h1] (cB (dC, dI) (kT cyB cyI cyJ cyZ cyO) (wc_c_M_safe cyB cyI cyJ cyZ cyO h1 md g) sz)) (va_Qi (fun (r : Int32) (_ : Unit) => r = -1) (fun (u : Unit) t => cE (dC, dI) (va_A (wc_c_M_safe cyB cyI cyJ cyZ cyO h1 md g) sz) ([]) t.heap) (va_A (wc_c_M_safe cyB cyI cyJ cyZ cyO h1 md g) sz)) 0 0 (va_A (wc_c_M_safe cyB cyI cyJ cyZ cyO h1 md g) sz) := by
  refine Met.ofW (cc := cX7_safe) (maxL := 3) (ret := (some .int)) (by decide) rfl ?_
  intro p e s m args below meth c s₁ B hml hv
  obtain ⟨rfl, hsz, hP, hKN, hD0⟩ := hv
  have hx := B.exec
  have hb := B.bytes
  have hr := B.returns
  have hts := atoms_spec (ws := wq_c_M_safe) B.pre
  have hown : s.vm.findClass RX7 = some m.cls := findClass_of_methodNamed B.named
  have hlocks := B.notSynchronized
  have hK := hKN.1
  have hfix : CallFix p m c cX7_safe 3 s [.ref h1].toArray wq_c_M_safe RX7 := ⟨hx, hb, hml, hown, hts⟩
  subst hsz
  have hD := hD0.self (sz := s.heap.size)
  generalize hAe : va_A (wc_c_M_safe cyB cyI cyJ cyZ cyO h1 md g) s.heap.size = A at hD ⊢
  have hA : ∀ q : Nat, s.heap.size ≤ q → A q := fun q h => by rw [← hAe]; exact Or.inr h
  have hS : va_S A s.heap s.heap [] := va_S.rf
  have hl := lv_entry ([.ref h1]) (n := 3) (Nat.le_of_ble_eq_true rfl)
  rw [lg_entry_eq]
  generalize (lg_sl ([.ref h1]) ++ List.replicate (3 - (lg_sl ([.ref h1])).length) Slot.unset).toArray = ls at hl ⊢
  have hl : lv_has ls 3 [(0, .ref h1)] := hl
  refine lv_aload_n hx hb dX7_safe_0 rfl (lv_at hl 0 rfl) ?_
  refine gf_i (wr := []) (va_runV (As := []) (rest := []) hfix (k_X7_lots_v5 l dC dI cyB cyI cyJ cyZ cyO h1 md g _ hg) (cwV 0 hts (gi_V (ow_m (k := 0) rfl) (ow_m (k := 1) rfl) (ow_m (k := 2) rfl) (ow_m (k := 3) rfl) (sb_c sb_l) gd_k_X7_lots_v5) rfl rfl rfl (by decide +kernel) ⟨Nat.le_of_ble_eq_true rfl, Nat.le_of_ble_eq_true rfl⟩) (g_preV hKN hP hD [0, 1] rfl (by decide) 0 7 rfl rfl) rfl rfl hl.1 rfl (lv_room (Nat.le_of_ble_eq_true rfl)) dX7_safe_1 ⟨Nat.le_of_ble_eq_true rfl, Nat.le_of_ble_eq_true rfl⟩) hP hD hS hA [0, 1] [] rfl rfl (by decide) (by decide) (fun r2582 u2583 H locs qu2583 hP hD hS => ?_)
  have hP : va_P (dC, dI) vwCl [(h1, .inr (7, [.ref (md 0), .ref (md 1), .int 0, .int 0, .int 0, .int (-1), .int 0, .int 0, .int 0, .int 0, .long 0, .ref (md 11), .ref (md 12), .ref (md 13), .ref (md 14), .ref (md 15), .ref (md 16), .ref (md 17), .ref (md 18), .ref (md 19), .ref (md 20), .ref (md 21), .ref (md 22), .ref (md 23), .ref (md 24), .ref (md 25), .ref (md 26), .ref (md 27), .ref (md 28), .int 0, .int 0, .int 0, .int 0, .int 0, .int 0, .int 0, .int 0, .int 0, .int 0, .int 0, .ref (md 40), .ref (md 41), .int 0, .int 0, .ref (md 44), .int 0, .int 0, .ref (md 47), .ref (md 48), .int 0, .ref (md 50), .ref (md 51), .ref (md 52), .ref (md 53), .ref (md 54), .int 0, .int 0, .ref (md 57), .ref (md 58)])), (md 40, .inl (cyI, 520, .inl g))] H := hP
  have hD : va_D A [(h1, .inr (7, [.ref (md 0), .ref (md 1), .int 0, .int 0, .int 0, .int (-1), .int 0, .int 0, .int 0, .int 0, .long 0, .ref (md 11), .ref (md 12), .ref (md 13), .ref (md 14), .ref (md 15), .ref (md 16), .ref (md 17), .ref (md 18), .ref (md 19), .ref (md 20), .ref (md 21), .ref (md 22), .ref (md 23), .ref (md 24), .ref (md 25), .ref (md 26), .ref (md 27), .ref (md 28), .int 0, .int 0, .int 0, .int 0, .int 0, .int 0, .int 0, .int 0, .int 0, .int 0, .int 0, .ref (md 40), .ref (md 41), .int 0, .int 0, .ref (md 44), .int 0, .int 0, .ref (md 47), .ref (md 48), .int 0, .ref (md 50), .ref (md 51), .ref (md 52), .ref (md 53), .ref (md 54), .int 0, .int 0, .ref (md 57), .ref (md 58)])), (md 40, .inl (cyI, 520, .inl g))] := hD
  refine tp_c (w := 0) qu2583 ?_
  refine lv_if_ne (tgt := 9) hx hb dX7_safe_4 (by decide) (fun c2584 => absurd (by decide) c2584) (fun _ => ?_)
  refine lv_iconst (v := (-1)) hx hb dX7_safe_7 (by decide) ?_
  exact W.iret (v := (-1)) hx hb hr (fun t ht hW => ⟨⟨(-1), (), rfl, rfl, cE.nil⟩, hS.F ht⟩) hS.2.2 dX7_safe_8
def wo_c_M_answered : List Cond := [.methodLink RX7 313 yX7_lots, .instanceMethod yX7_lots, .selects RX7 yX7_lots yX7_lots, .initialized RX7]
def wq_c_M_answered : List Cond := .code yX7_answered cX7_answered 1 (some .int) :: (wo_c_M_answered ++ (wq_k_X7_lots_v5 ++ []))
theorem gd_c_M_answered : Gd wq_c_M_answered := gd_c (gd_a (gd_o (by decide +kernel)) (gd_a gd_k_X7_lots_v5 gd_0))
abbrev wc_c_M_answered (cyB cyI cyJ cyZ cyO : ClassId) (h1 : Nat) (md : Nat → Nat) (g : Nat → Int32) : va_W := [(h1, .inr (7, [.ref (md 0), .ref (md 1), .int 0, .int 0, .int 0, .int (-1), .int 0, .int 0, .int 0, .int 0, .long 0, .ref (md 11), .ref (md 12), .ref (md 13), .ref (md 14), .ref (md 15), .ref (md 16), .ref (md 17), .ref (md 18), .ref (md 19), .ref (md 20), .ref (md 21), .ref (md 22), .ref (md 23), .ref (md 24), .ref (md 25), .ref (md 26), .ref (md 27), .ref (md 28), .int 0, .int 0, .int 0, .int 0, .int 0, .int 0, .int 0, .int 0, .int 0, .int 0, .int 0, .ref (md 40), .ref (md 41), .int 0, .int 0, .ref (md 44), .int 0, .int 0, .ref (md 47), .ref (md 48), .int 0, .ref (md 50), .ref (md 51), .ref (md 52), .ref (md 53), .ref (md 54), .int 0, .int 0, .ref (md 57), .ref (md 58)])), (md 40, .inl (cyI, 520, .inl g))]
set_option maxHeartbeats 4000000 in
set_option maxRecDepth 100000 in
theorem c_M_answered (l : Launch) (dC : Nat → ClassId) (dI : Nat → Nat → Nat) (cyB cyI cyJ cyZ cyO : ClassId) (h1 : Nat) (md : Nat → Nat) (g : Nat → Int32) (sz : Nat) (hg : AllZ g) : Met l yX7_answered wq_c_M_answered ({ frames := 1, cells := 0, slots := 0, locals := 20 }) (va_Pc [.ref h1] (cB (dC, dI) (kT cyB cyI cyJ cyZ cyO) (wc_c_M_answered cyB cyI cyJ cyZ cyO h1 md g) sz)) (va_Qi (fun (r : Int32) (_ : Unit) => r = -1) (fun (u : Unit) t => cE (dC, dI) (va_A (wc_c_M_answered cyB cyI cyJ cyZ cyO h1 md g) sz) ([]) t.heap) (va_A (wc_c_M_answered cyB cyI cyJ cyZ cyO h1 md g) sz)) 0 0 (va_A (wc_c_M_answered cyB cyI cyJ cyZ cyO h1 md g) sz) := by
  refine Met.ofW (cc := cX7_answered) (maxL := 1) (ret := (some .int)) (by decide) rfl ?_
  intro p e s m args below meth c s₁ B hml hv
  obtain ⟨rfl, hsz, hP, hKN, hD0⟩ := hv
  have hx := B.exec
  have hb := B.bytes
  have hr := B.returns
  have hts := atoms_spec (ws := wq_c_M_answered) B.pre
  have hown : s.vm.findClass RX7 = some m.cls := findClass_of_methodNamed B.named
  have hlocks := B.notSynchronized
  have hK := hKN.1
  have hfix : CallFix p m c cX7_answered 1 s [.ref h1].toArray wq_c_M_answered RX7 := ⟨hx, hb, hml, hown, hts⟩
  subst hsz
  have hD := hD0.self (sz := s.heap.size)
  generalize hAe : va_A (wc_c_M_answered cyB cyI cyJ cyZ cyO h1 md g) s.heap.size = A at hD ⊢
  have hA : ∀ q : Nat, s.heap.size ≤ q → A q := fun q h => by rw [← hAe]; exact Or.inr h
  have hS : va_S A s.heap s.heap [] := va_S.rf
  have hl := lv_entry ([.ref h1]) (n := 1) (Nat.le_of_ble_eq_true rfl)
  rw [lg_entry_eq]
  generalize (lg_sl ([.ref h1]) ++ List.replicate (1 - (lg_sl ([.ref h1])).length) Slot.unset).toArray = ls at hl ⊢
  have hl : lv_has ls 1 [(0, .ref h1)] := hl
  refine lv_aload_n hx hb dX7_answered_0 rfl (lv_at hl 0 rfl) ?_
  refine gf_i (wr := []) (va_runV (As := []) (rest := []) hfix (k_X7_lots_v5 l dC dI cyB cyI cyJ cyZ cyO h1 md g _ hg) (cwV 0 hts (gi_V (ow_m (k := 0) rfl) (ow_m (k := 1) rfl) (ow_m (k := 2) rfl) (ow_m (k := 3) rfl) (sb_c sb_l) gd_k_X7_lots_v5) rfl rfl rfl (by decide +kernel) ⟨Nat.le_of_ble_eq_true rfl, Nat.le_of_ble_eq_true rfl⟩) (g_preV hKN hP hD [0, 1] rfl (by decide) 0 7 rfl rfl) rfl rfl hl.1 rfl (lv_room (Nat.le_of_ble_eq_true rfl)) dX7_answered_1 ⟨Nat.le_of_ble_eq_true rfl, Nat.le_of_ble_eq_true rfl⟩) hP hD hS hA [0, 1] [] rfl rfl (by decide) (by decide) (fun r2588 u2589 H locs qu2589 hP hD hS => ?_)
  have hP : va_P (dC, dI) vwCl [(h1, .inr (7, [.ref (md 0), .ref (md 1), .int 0, .int 0, .int 0, .int (-1), .int 0, .int 0, .int 0, .int 0, .long 0, .ref (md 11), .ref (md 12), .ref (md 13), .ref (md 14), .ref (md 15), .ref (md 16), .ref (md 17), .ref (md 18), .ref (md 19), .ref (md 20), .ref (md 21), .ref (md 22), .ref (md 23), .ref (md 24), .ref (md 25), .ref (md 26), .ref (md 27), .ref (md 28), .int 0, .int 0, .int 0, .int 0, .int 0, .int 0, .int 0, .int 0, .int 0, .int 0, .int 0, .ref (md 40), .ref (md 41), .int 0, .int 0, .ref (md 44), .int 0, .int 0, .ref (md 47), .ref (md 48), .int 0, .ref (md 50), .ref (md 51), .ref (md 52), .ref (md 53), .ref (md 54), .int 0, .int 0, .ref (md 57), .ref (md 58)])), (md 40, .inl (cyI, 520, .inl g))] H := hP
  have hD : va_D A [(h1, .inr (7, [.ref (md 0), .ref (md 1), .int 0, .int 0, .int 0, .int (-1), .int 0, .int 0, .int 0, .int 0, .long 0, .ref (md 11), .ref (md 12), .ref (md 13), .ref (md 14), .ref (md 15), .ref (md 16), .ref (md 17), .ref (md 18), .ref (md 19), .ref (md 20), .ref (md 21), .ref (md 22), .ref (md 23), .ref (md 24), .ref (md 25), .ref (md 26), .ref (md 27), .ref (md 28), .int 0, .int 0, .int 0, .int 0, .int 0, .int 0, .int 0, .int 0, .int 0, .int 0, .int 0, .ref (md 40), .ref (md 41), .int 0, .int 0, .ref (md 44), .int 0, .int 0, .ref (md 47), .ref (md 48), .int 0, .ref (md 50), .ref (md 51), .ref (md 52), .ref (md 53), .ref (md 54), .int 0, .int 0, .ref (md 57), .ref (md 58)])), (md 40, .inl (cyI, 520, .inl g))] := hD
  refine tp_c (w := 0) qu2589 ?_
  refine lv_if_ne (tgt := 11) hx hb dX7_answered_4 (by decide) (fun c2590 => absurd (by decide) c2590) (fun _ => ?_)
  refine lv_iconst (v := (-1)) hx hb dX7_answered_7 (by decide) ?_
  refine lv_goto (tgt := 16) hx hb dX7_answered_8 (by decide) ?_
  exact W.iret (v := (-1)) hx hb hr (fun t ht hW => ⟨⟨(-1), (), rfl, rfl, cE.nil⟩, hS.F ht⟩) hS.2.2 dX7_answered_16
def wo_c_M_soonest : List Cond := [.fieldLink RX7 338 "ReplicaChainModel" "laid" "I", .methodLink RX7 313 yX7_lots, .instanceMethod yX7_lots, .selects RX7 yX7_lots yX7_lots, .initialized RX7]
def wq_c_M_soonest : List Cond := .code yX7_soonest cX7_soonest 7 (some .int) :: (wo_c_M_soonest ++ (wq_k_X7_lots_v5 ++ (wsX70 ++ [])))
theorem gd_c_M_soonest : Gd wq_c_M_soonest := gd_c (gd_a (gd_o (by decide +kernel)) (gd_a gd_k_X7_lots_v5 (gd_a gd_u gd_0)))
abbrev wc_c_M_soonest (cyB cyI cyJ cyZ cyO : ClassId) (h1 : Nat) (md : Nat → Nat) (g : Nat → Int32) : va_W := [(h1, .inr (7, [.ref (md 0), .ref (md 1), .int 0, .int 0, .int 0, .int (-1), .int 0, .int 0, .int 0, .int 0, .long 0, .ref (md 11), .ref (md 12), .ref (md 13), .ref (md 14), .ref (md 15), .ref (md 16), .ref (md 17), .ref (md 18), .ref (md 19), .ref (md 20), .ref (md 21), .ref (md 22), .ref (md 23), .ref (md 24), .ref (md 25), .ref (md 26), .ref (md 27), .ref (md 28), .int 0, .int 0, .int 0, .int 0, .int 0, .int 0, .int 0, .int 0, .int 0, .int 0, .int 0, .ref (md 40), .ref (md 41), .int 0, .int 0, .ref (md 44), .int 0, .int 0, .ref (md 47), .ref (md 48), .int 0, .ref (md 50), .ref (md 51), .ref (md 52), .ref (md 53), .ref (md 54), .int 0, .int 0, .ref (md 57), .ref (md 58)])), (md 40, .inl (cyI, 520, .inl g))]
set_option maxHeartbeats 4000000 in
set_option maxRecDepth 100000 in
theorem c_M_soonest (l : Launch) (dC : Nat → ClassId) (dI : Nat → Nat → Nat) (cyB cyI cyJ cyZ cyO : ClassId) (h1 : Nat) (md : Nat → Nat) (g : Nat → Int32) (sz : Nat) (hg : AllZ g) : Met l yX7_soonest wq_c_M_soonest ({ frames := 1, cells := 0, slots := 0, locals := 20 }) (va_Pc [.ref h1] (cB (dC, dI) (kT cyB cyI cyJ cyZ cyO) (wc_c_M_soonest cyB cyI cyJ cyZ cyO h1 md g) sz)) (va_Qi (fun (r : Int32) (_ : Unit) => r = -1) (fun (u : Unit) t => cE (dC, dI) (va_A (wc_c_M_soonest cyB cyI cyJ cyZ cyO h1 md g) sz) ([]) t.heap) (va_A (wc_c_M_soonest cyB cyI cyJ cyZ cyO h1 md g) sz)) 0 0 (va_A (wc_c_M_soonest cyB cyI cyJ cyZ cyO h1 md g) sz) := by
  refine Met.ofW (cc := cX7_soonest) (maxL := 7) (ret := (some .int)) (by decide) rfl ?_
  intro p e s m args below meth c s₁ B hml hv
  obtain ⟨rfl, hsz, hP, hKN, hD0⟩ := hv
  have hx := B.exec
  have hb := B.bytes
  have hr := B.returns
  have hts := atoms_spec (ws := wq_c_M_soonest) B.pre
  have hown : s.vm.findClass RX7 = some m.cls := findClass_of_methodNamed B.named
  have hlocks := B.notSynchronized
  have hK := hKN.1
  have hfix : CallFix p m c cX7_soonest 7 s [.ref h1].toArray wq_c_M_soonest RX7 := ⟨hx, hb, hml, hown, hts⟩
  have hi7 : ∀ w ∈ wsX70, w ∈ wq_c_M_soonest := (sb_c (sb_r sb_l))
  subst hsz
  have hD := hD0.self (sz := s.heap.size)
  generalize hAe : va_A (wc_c_M_soonest cyB cyI cyJ cyZ cyO h1 md g) s.heap.size = A at hD ⊢
  have hA : ∀ q : Nat, s.heap.size ≤ q → A q := fun q h => by rw [← hAe]; exact Or.inr h
  have hS : va_S A s.heap s.heap [] := va_S.rf
  have hl := lv_entry ([.ref h1]) (n := 7) (Nat.le_of_ble_eq_true rfl)
  rw [lg_entry_eq]
  generalize (lg_sl ([.ref h1]) ++ List.replicate (7 - (lg_sl ([.ref h1])).length) Slot.unset).toArray = ls at hl ⊢
  have hl : lv_has ls 7 [(0, .ref h1)] := hl
  refine lv_aload_n hx hb dX7_soonest_0 rfl (lv_at hl 0 rfl) ?_
  refine lv_iconst (v := 0) hx hb dX7_soonest_1 (by decide) ?_
  refine va_put (D := (dC, dI)) (ci := 7) (v := .int 0) (ty := .int) (C := RX7) (T := TX7) (N := 59) hx hb hts hi7 tyX7 tyX7_ok nmX7 hown hK hP hD hS 0 rfl rfl 49 (by decide) (hts _ (ow_m (k := 0) rfl)) (fun _ h9 => h9) rfl (by decide +kernel) rfl rfl (Nat.le_of_ble_eq_true rfl) dX7_soonest_2 (fun H locs hP hD hS => ?_)
  have hP : va_P (dC, dI) vwCl [(h1, .inr (7, [.ref (md 0), .ref (md 1), .int 0, .int 0, .int 0, .int (-1), .int 0, .int 0, .int 0, .int 0, .long 0, .ref (md 11), .ref (md 12), .ref (md 13), .ref (md 14), .ref (md 15), .ref (md 16), .ref (md 17), .ref (md 18), .ref (md 19), .ref (md 20), .ref (md 21), .ref (md 22), .ref (md 23), .ref (md 24), .ref (md 25), .ref (md 26), .ref (md 27), .ref (md 28), .int 0, .int 0, .int 0, .int 0, .int 0, .int 0, .int 0, .int 0, .int 0, .int 0, .int 0, .ref (md 40), .ref (md 41), .int 0, .int 0, .ref (md 44), .int 0, .int 0, .ref (md 47), .ref (md 48), .int 0, .ref (md 50), .ref (md 51), .ref (md 52), .ref (md 53), .ref (md 54), .int 0, .int 0, .ref (md 57), .ref (md 58)])), (md 40, .inl (cyI, 520, .inl g))] H := hP
  have hD : va_D A [(h1, .inr (7, [.ref (md 0), .ref (md 1), .int 0, .int 0, .int 0, .int (-1), .int 0, .int 0, .int 0, .int 0, .long 0, .ref (md 11), .ref (md 12), .ref (md 13), .ref (md 14), .ref (md 15), .ref (md 16), .ref (md 17), .ref (md 18), .ref (md 19), .ref (md 20), .ref (md 21), .ref (md 22), .ref (md 23), .ref (md 24), .ref (md 25), .ref (md 26), .ref (md 27), .ref (md 28), .int 0, .int 0, .int 0, .int 0, .int 0, .int 0, .int 0, .int 0, .int 0, .int 0, .int 0, .ref (md 40), .ref (md 41), .int 0, .int 0, .ref (md 44), .int 0, .int 0, .ref (md 47), .ref (md 48), .int 0, .ref (md 50), .ref (md 51), .ref (md 52), .ref (md 53), .ref (md 54), .int 0, .int 0, .ref (md 57), .ref (md 58)])), (md 40, .inl (cyI, 520, .inl g))] := hD
  refine lv_aload_n hx hb dX7_soonest_5 rfl (lv_at hl 0 rfl) ?_
  refine gf_i (wr := []) (va_runV (As := []) (rest := []) hfix (k_X7_lots_v5 l dC dI cyB cyI cyJ cyZ cyO h1 md g _ hg) (cwV 0 hts (gi_V (ow_m (k := 1) rfl) (ow_m (k := 2) rfl) (ow_m (k := 3) rfl) (ow_m (k := 4) rfl) (sb_c sb_l) gd_k_X7_lots_v5) rfl rfl rfl (by decide +kernel) ⟨Nat.le_of_ble_eq_true rfl, Nat.le_of_ble_eq_true rfl⟩) (g_preV hKN hP hD [0, 1] rfl (by decide) 0 7 rfl rfl) rfl rfl hl.1 rfl (lv_room (Nat.le_of_ble_eq_true rfl)) dX7_soonest_6 ⟨Nat.le_of_ble_eq_true rfl, Nat.le_of_ble_eq_true rfl⟩) hP hD hS hA [0, 1] [] rfl rfl (by decide) (by decide) (fun r2594 u2595 H locs qu2595 hP hD hS => ?_)
  have hP : va_P (dC, dI) vwCl [(h1, .inr (7, [.ref (md 0), .ref (md 1), .int 0, .int 0, .int 0, .int (-1), .int 0, .int 0, .int 0, .int 0, .long 0, .ref (md 11), .ref (md 12), .ref (md 13), .ref (md 14), .ref (md 15), .ref (md 16), .ref (md 17), .ref (md 18), .ref (md 19), .ref (md 20), .ref (md 21), .ref (md 22), .ref (md 23), .ref (md 24), .ref (md 25), .ref (md 26), .ref (md 27), .ref (md 28), .int 0, .int 0, .int 0, .int 0, .int 0, .int 0, .int 0, .int 0, .int 0, .int 0, .int 0, .ref (md 40), .ref (md 41), .int 0, .int 0, .ref (md 44), .int 0, .int 0, .ref (md 47), .ref (md 48), .int 0, .ref (md 50), .ref (md 51), .ref (md 52), .ref (md 53), .ref (md 54), .int 0, .int 0, .ref (md 57), .ref (md 58)])), (md 40, .inl (cyI, 520, .inl g))] H := hP
  have hD : va_D A [(h1, .inr (7, [.ref (md 0), .ref (md 1), .int 0, .int 0, .int 0, .int (-1), .int 0, .int 0, .int 0, .int 0, .long 0, .ref (md 11), .ref (md 12), .ref (md 13), .ref (md 14), .ref (md 15), .ref (md 16), .ref (md 17), .ref (md 18), .ref (md 19), .ref (md 20), .ref (md 21), .ref (md 22), .ref (md 23), .ref (md 24), .ref (md 25), .ref (md 26), .ref (md 27), .ref (md 28), .int 0, .int 0, .int 0, .int 0, .int 0, .int 0, .int 0, .int 0, .int 0, .int 0, .int 0, .ref (md 40), .ref (md 41), .int 0, .int 0, .ref (md 44), .int 0, .int 0, .ref (md 47), .ref (md 48), .int 0, .ref (md 50), .ref (md 51), .ref (md 52), .ref (md 53), .ref (md 54), .int 0, .int 0, .ref (md 57), .ref (md 58)])), (md 40, .inl (cyI, 520, .inl g))] := hD
  refine tp_c (w := 0) qu2595 ?_
  refine lv_istore_n (lv' := [(1, .int 0), (0, .ref h1)]) hx hb dX7_soonest_9 rfl hl (by decide) rfl (fun ls hl => ?_)
  refine lv_iload_n hx hb dX7_soonest_10 rfl (lv_at hl 0 rfl) ?_
  refine lv_if_ne (tgt := 16) hx hb dX7_soonest_11 (by decide) (fun c2596 => absurd (by decide) c2596) (fun _ => ?_)
  refine lv_iconst (v := (-1)) hx hb dX7_soonest_14 (by decide) ?_
  exact W.iret (v := (-1)) hx hb hr (fun t ht hW => ⟨⟨(-1), (), rfl, rfl, cE.nil⟩, hS.F ht⟩) hS.2.2 dX7_soonest_15
def wo_c_M_weed : List Cond := [.methodLink RX7 316 yX7_isIn, .static yX7_isIn, .initialized RX7, .methodLink RX7 313 yX7_lots, .instanceMethod yX7_lots, .selects RX7 yX7_lots yX7_lots]
def wq_c_M_weed : List Cond := .code yX7_weed cX7_weed 8 (some .int) :: (wo_c_M_weed ++ (wq_k_X7_isIn_v4 ++ (wq_k_X7_lots_v5 ++ [])))
theorem gd_c_M_weed : Gd wq_c_M_weed := gd_c (gd_a (gd_o (by decide +kernel)) (gd_a gd_k_X7_isIn_v4 (gd_a gd_k_X7_lots_v5 gd_0)))
abbrev wc_c_M_weed (cyB cyI cyJ cyZ cyO : ClassId) (h1 : Nat) (md : Nat → Nat) (g : Nat → Int32) (x1 : Int32) : va_W := [(h1, .inr (7, [.ref (md 0), .ref (md 1), .int 0, .int 0, .int 0, .int (-1), .int 0, .int 0, .int 0, .int 0, .long 0, .ref (md 11), .ref (md 12), .ref (md 13), .ref (md 14), .ref (md 15), .ref (md 16), .ref (md 17), .ref (md 18), .ref (md 19), .ref (md 20), .ref (md 21), .ref (md 22), .ref (md 23), .ref (md 24), .ref (md 25), .ref (md 26), .ref (md 27), .ref (md 28), .int 0, .int 0, .int 0, .int 0, .int 0, .int 0, .int 0, .int 0, .int 0, .int 0, .int 0, .ref (md 40), .ref (md 41), .int 0, .int 0, .ref (md 44), .int 0, .int 0, .ref (md 47), .ref (md 48), .int 0, .ref (md 50), .ref (md 51), .ref (md 52), .ref (md 53), .ref (md 54), .int 0, .int 0, .ref (md 57), .ref (md 58)])), (md 40, .inl (cyI, 520, .inl g))]
set_option maxHeartbeats 4000000 in
set_option maxRecDepth 100000 in
theorem c_M_weed (l : Launch) (dC : Nat → ClassId) (dI : Nat → Nat → Nat) (cyB cyI cyJ cyZ cyO : ClassId) (h1 : Nat) (md : Nat → Nat) (g : Nat → Int32) (x1 : Int32) (sz : Nat) (hg : AllZ g) : Met l yX7_weed wq_c_M_weed ({ frames := 1, cells := 0, slots := 0, locals := 22 }) (va_Pc [.ref h1, .int x1] (cB (dC, dI) (kT cyB cyI cyJ cyZ cyO) (wc_c_M_weed cyB cyI cyJ cyZ cyO h1 md g x1) sz)) (va_Qi (fun (r : Int32) (_ : Unit) => r = -1) (fun (u : Unit) t => cE (dC, dI) (va_A (wc_c_M_weed cyB cyI cyJ cyZ cyO h1 md g x1) sz) ([]) t.heap) (va_A (wc_c_M_weed cyB cyI cyJ cyZ cyO h1 md g x1) sz)) 0 0 (va_A (wc_c_M_weed cyB cyI cyJ cyZ cyO h1 md g x1) sz) := by
  refine Met.ofW (cc := cX7_weed) (maxL := 8) (ret := (some .int)) (by decide) rfl ?_
  intro p e s m args below meth c s₁ B hml hv
  obtain ⟨rfl, hsz, hP, hKN, hD0⟩ := hv
  have hx := B.exec
  have hb := B.bytes
  have hr := B.returns
  have hts := atoms_spec (ws := wq_c_M_weed) B.pre
  have hown : s.vm.findClass RX7 = some m.cls := findClass_of_methodNamed B.named
  have hlocks := B.notSynchronized
  have hK := hKN.1
  have hfix : CallFix p m c cX7_weed 8 s [.ref h1, .int x1].toArray wq_c_M_weed RX7 := ⟨hx, hb, hml, hown, hts⟩
  subst hsz
  have hD := hD0.self (sz := s.heap.size)
  generalize hAe : va_A (wc_c_M_weed cyB cyI cyJ cyZ cyO h1 md g x1) s.heap.size = A at hD ⊢
  have hA : ∀ q : Nat, s.heap.size ≤ q → A q := fun q h => by rw [← hAe]; exact Or.inr h
  have hS : va_S A s.heap s.heap [] := va_S.rf
  have hl := lv_entry ([.ref h1, .int x1]) (n := 8) (Nat.le_of_ble_eq_true rfl)
  rw [lg_entry_eq]
  generalize (lg_sl ([.ref h1, .int x1]) ++ List.replicate (8 - (lg_sl ([.ref h1, .int x1])).length) Slot.unset).toArray = ls at hl ⊢
  have hl : lv_has ls 8 [(0, .ref h1), (1, .int x1)] := hl
  refine lv_iload_n hx hb dX7_weed_0 rfl (lv_at hl 1 rfl) ?_
  refine lv_iconst (v := 0) hx hb dX7_weed_1 (by decide) ?_
  refine lv_iconst (v := 1) hx hb dX7_weed_2 (by decide) ?_
  refine gf_i (wr := [(h1, .inr (7, [.ref (md 0), .ref (md 1), .int 0, .int 0, .int 0, .int (-1), .int 0, .int 0, .int 0, .int 0, .long 0, .ref (md 11), .ref (md 12), .ref (md 13), .ref (md 14), .ref (md 15), .ref (md 16), .ref (md 17), .ref (md 18), .ref (md 19), .ref (md 20), .ref (md 21), .ref (md 22), .ref (md 23), .ref (md 24), .ref (md 25), .ref (md 26), .ref (md 27), .ref (md 28), .int 0, .int 0, .int 0, .int 0, .int 0, .int 0, .int 0, .int 0, .int 0, .int 0, .int 0, .ref (md 40), .ref (md 41), .int 0, .int 0, .ref (md 44), .int 0, .int 0, .ref (md 47), .ref (md 48), .int 0, .ref (md 50), .ref (md 51), .ref (md 52), .ref (md 53), .ref (md 54), .int 0, .int 0, .ref (md 57), .ref (md 58)])), (md 40, .inl (cyI, 520, .inl g))]) (va_runS (As := [.int x1, .int 0, .int 1]) (rest := []) hfix (k_X7_isIn_v4 l dC dI cyB cyI cyJ cyZ cyO x1 _) (va_cwS 3 hts (gi_S (ow_m (k := 0) rfl) (ow_m (k := 1) rfl) (ow_m (k := 2) rfl) (sb_c sb_l) gd_k_X7_isIn_v4) rfl rfl rfl (by decide +kernel) ⟨Nat.le_of_ble_eq_true rfl, Nat.le_of_ble_eq_true rfl⟩) (g_preS hKN hP hD [] rfl (by decide)) rfl rfl hl.1 rfl (lv_room (Nat.le_of_ble_eq_true rfl)) dX7_weed_3 ⟨Nat.le_of_ble_eq_true rfl, Nat.le_of_ble_eq_true rfl⟩) hP hD hS hA [] [0, 1] rfl rfl (by decide) (by decide) (fun r2614 u2615 H locs qu2615 hP hD hS => ?_)
  have hP : va_P (dC, dI) vwCl [(h1, .inr (7, [.ref (md 0), .ref (md 1), .int 0, .int 0, .int 0, .int (-1), .int 0, .int 0, .int 0, .int 0, .long 0, .ref (md 11), .ref (md 12), .ref (md 13), .ref (md 14), .ref (md 15), .ref (md 16), .ref (md 17), .ref (md 18), .ref (md 19), .ref (md 20), .ref (md 21), .ref (md 22), .ref (md 23), .ref (md 24), .ref (md 25), .ref (md 26), .ref (md 27), .ref (md 28), .int 0, .int 0, .int 0, .int 0, .int 0, .int 0, .int 0, .int 0, .int 0, .int 0, .int 0, .ref (md 40), .ref (md 41), .int 0, .int 0, .ref (md 44), .int 0, .int 0, .ref (md 47), .ref (md 48), .int 0, .ref (md 50), .ref (md 51), .ref (md 52), .ref (md 53), .ref (md 54), .int 0, .int 0, .ref (md 57), .ref (md 58)])), (md 40, .inl (cyI, 520, .inl g))] H := hP
  have hD : va_D A [(h1, .inr (7, [.ref (md 0), .ref (md 1), .int 0, .int 0, .int 0, .int (-1), .int 0, .int 0, .int 0, .int 0, .long 0, .ref (md 11), .ref (md 12), .ref (md 13), .ref (md 14), .ref (md 15), .ref (md 16), .ref (md 17), .ref (md 18), .ref (md 19), .ref (md 20), .ref (md 21), .ref (md 22), .ref (md 23), .ref (md 24), .ref (md 25), .ref (md 26), .ref (md 27), .ref (md 28), .int 0, .int 0, .int 0, .int 0, .int 0, .int 0, .int 0, .int 0, .int 0, .int 0, .int 0, .ref (md 40), .ref (md 41), .int 0, .int 0, .ref (md 44), .int 0, .int 0, .ref (md 47), .ref (md 48), .int 0, .ref (md 50), .ref (md 51), .ref (md 52), .ref (md 53), .ref (md 54), .int 0, .int 0, .ref (md 57), .ref (md 58)])), (md 40, .inl (cyI, 520, .inl g))] := hD
  rcases qu2615 with ⟨rfl, b2616⟩ | ⟨rfl, b2617, b2618⟩ | ⟨rfl, b2619, b2620⟩
  · skip
    refine lv_if_eq (tgt := 17) hx hb dX7_weed_6 (by decide) (fun _ => ?_) (fun c2621 => absurd (by decide) c2621)
    refine lv_iconst (v := (-1)) hx hb dX7_weed_17 (by decide) ?_
    exact W.iret (v := (-1)) hx hb hr (fun t ht hW => ⟨⟨(-1), (), rfl, rfl, cE.nil⟩, hS.F ht⟩) hS.2.2 dX7_weed_18
  · skip
    refine lv_if_eq (tgt := 17) hx hb dX7_weed_6 (by decide) (fun _ => ?_) (fun c2622 => absurd (by decide) c2622)
    refine lv_iconst (v := (-1)) hx hb dX7_weed_17 (by decide) ?_
    exact W.iret (v := (-1)) hx hb hr (fun t ht hW => ⟨⟨(-1), (), rfl, rfl, cE.nil⟩, hS.F ht⟩) hS.2.2 dX7_weed_18
  · skip
    refine lv_if_eq (tgt := 17) hx hb dX7_weed_6 (by decide) (fun c2623 => absurd c2623 (by decide)) (fun _ => ?_)
    refine lv_aload_n hx hb dX7_weed_9 rfl (lv_at hl 0 rfl) ?_
    refine gf_i (wr := []) (va_runV (As := []) (rest := []) hfix (k_X7_lots_v5 l dC dI cyB cyI cyJ cyZ cyO h1 md g _ hg) (cwV 0 hts (gi_V (ow_m (k := 3) rfl) (ow_m (k := 4) rfl) (ow_m (k := 5) rfl) (ow_m (k := 2) rfl) (sb_c (sb_r sb_l)) gd_k_X7_lots_v5) rfl rfl rfl (by decide +kernel) ⟨Nat.le_of_ble_eq_true rfl, Nat.le_of_ble_eq_true rfl⟩) (g_preV hKN hP hD [0, 1] rfl (by decide) 0 7 rfl rfl) rfl rfl hl.1 rfl (lv_room (Nat.le_of_ble_eq_true rfl)) dX7_weed_10 ⟨Nat.le_of_ble_eq_true rfl, Nat.le_of_ble_eq_true rfl⟩) hP hD hS hA [0, 1] [] rfl rfl (by decide) (by decide) (fun r2624 u2625 H locs qu2625 hP hD hS => ?_)
    have hP : va_P (dC, dI) vwCl [(h1, .inr (7, [.ref (md 0), .ref (md 1), .int 0, .int 0, .int 0, .int (-1), .int 0, .int 0, .int 0, .int 0, .long 0, .ref (md 11), .ref (md 12), .ref (md 13), .ref (md 14), .ref (md 15), .ref (md 16), .ref (md 17), .ref (md 18), .ref (md 19), .ref (md 20), .ref (md 21), .ref (md 22), .ref (md 23), .ref (md 24), .ref (md 25), .ref (md 26), .ref (md 27), .ref (md 28), .int 0, .int 0, .int 0, .int 0, .int 0, .int 0, .int 0, .int 0, .int 0, .int 0, .int 0, .ref (md 40), .ref (md 41), .int 0, .int 0, .ref (md 44), .int 0, .int 0, .ref (md 47), .ref (md 48), .int 0, .ref (md 50), .ref (md 51), .ref (md 52), .ref (md 53), .ref (md 54), .int 0, .int 0, .ref (md 57), .ref (md 58)])), (md 40, .inl (cyI, 520, .inl g))] H := hP
    have hD : va_D A [(h1, .inr (7, [.ref (md 0), .ref (md 1), .int 0, .int 0, .int 0, .int (-1), .int 0, .int 0, .int 0, .int 0, .long 0, .ref (md 11), .ref (md 12), .ref (md 13), .ref (md 14), .ref (md 15), .ref (md 16), .ref (md 17), .ref (md 18), .ref (md 19), .ref (md 20), .ref (md 21), .ref (md 22), .ref (md 23), .ref (md 24), .ref (md 25), .ref (md 26), .ref (md 27), .ref (md 28), .int 0, .int 0, .int 0, .int 0, .int 0, .int 0, .int 0, .int 0, .int 0, .int 0, .int 0, .ref (md 40), .ref (md 41), .int 0, .int 0, .ref (md 44), .int 0, .int 0, .ref (md 47), .ref (md 48), .int 0, .ref (md 50), .ref (md 51), .ref (md 52), .ref (md 53), .ref (md 54), .int 0, .int 0, .ref (md 57), .ref (md 58)])), (md 40, .inl (cyI, 520, .inl g))] := hD
    refine tp_c (w := 0) qu2625 ?_
    refine lv_iconst (v := 2) hx hb dX7_weed_13 (by decide) ?_
    refine lv_icmp_ge (tgt := 19) hx hb dX7_weed_14 (by decide) (fun c2626 => absurd c2626 (by decide)) (fun _ => ?_)
    refine lv_iconst (v := (-1)) hx hb dX7_weed_17 (by decide) ?_
    exact W.iret (v := (-1)) hx hb hr (fun t ht hW => ⟨⟨(-1), (), rfl, rfl, cE.nil⟩, hS.F ht⟩) hS.2.2 dX7_weed_18
def wo_c_M_fullest : List Cond := [.methodLink RX7 313 yX7_lots, .instanceMethod yX7_lots, .selects RX7 yX7_lots yX7_lots, .initialized RX7]
def wq_c_M_fullest : List Cond := .code yX7_fullest cX7_fullest 5 (some .int) :: (wo_c_M_fullest ++ (wq_k_X7_lots_v5 ++ []))
theorem gd_c_M_fullest : Gd wq_c_M_fullest := gd_c (gd_a (gd_o (by decide +kernel)) (gd_a gd_k_X7_lots_v5 gd_0))
abbrev wc_c_M_fullest (cyB cyI cyJ cyZ cyO : ClassId) (h1 : Nat) (md : Nat → Nat) (g : Nat → Int32) : va_W := [(h1, .inr (7, [.ref (md 0), .ref (md 1), .int 0, .int 0, .int 0, .int (-1), .int 0, .int 0, .int 0, .int 0, .long 0, .ref (md 11), .ref (md 12), .ref (md 13), .ref (md 14), .ref (md 15), .ref (md 16), .ref (md 17), .ref (md 18), .ref (md 19), .ref (md 20), .ref (md 21), .ref (md 22), .ref (md 23), .ref (md 24), .ref (md 25), .ref (md 26), .ref (md 27), .ref (md 28), .int 0, .int 0, .int 0, .int 0, .int 0, .int 0, .int 0, .int 0, .int 0, .int 0, .int 0, .ref (md 40), .ref (md 41), .int 0, .int 0, .ref (md 44), .int 0, .int 0, .ref (md 47), .ref (md 48), .int 0, .ref (md 50), .ref (md 51), .ref (md 52), .ref (md 53), .ref (md 54), .int 0, .int 0, .ref (md 57), .ref (md 58)])), (md 40, .inl (cyI, 520, .inl g))]
set_option maxHeartbeats 4000000 in
set_option maxRecDepth 100000 in
theorem c_M_fullest (l : Launch) (dC : Nat → ClassId) (dI : Nat → Nat → Nat) (cyB cyI cyJ cyZ cyO : ClassId) (h1 : Nat) (md : Nat → Nat) (g : Nat → Int32) (sz : Nat) (hg : AllZ g) : Met l yX7_fullest wq_c_M_fullest ({ frames := 1, cells := 0, slots := 0, locals := 20 }) (va_Pc [.ref h1] (cB (dC, dI) (kT cyB cyI cyJ cyZ cyO) (wc_c_M_fullest cyB cyI cyJ cyZ cyO h1 md g) sz)) (va_Qi (fun (r : Int32) (_ : Unit) => r = -1) (fun (u : Unit) t => cE (dC, dI) (va_A (wc_c_M_fullest cyB cyI cyJ cyZ cyO h1 md g) sz) ([]) t.heap) (va_A (wc_c_M_fullest cyB cyI cyJ cyZ cyO h1 md g) sz)) 0 0 (va_A (wc_c_M_fullest cyB cyI cyJ cyZ cyO h1 md g) sz) := by
  refine Met.ofW (cc := cX7_fullest) (maxL := 5) (ret := (some .int)) (by decide) rfl ?_
  intro p e s m args below meth c s₁ B hml hv
  obtain ⟨rfl, hsz, hP, hKN, hD0⟩ := hv
  have hx := B.exec
  have hb := B.bytes
  have hr := B.returns
  have hts := atoms_spec (ws := wq_c_M_fullest) B.pre
  have hown : s.vm.findClass RX7 = some m.cls := findClass_of_methodNamed B.named
  have hlocks := B.notSynchronized
  have hK := hKN.1
  have hfix : CallFix p m c cX7_fullest 5 s [.ref h1].toArray wq_c_M_fullest RX7 := ⟨hx, hb, hml, hown, hts⟩
  subst hsz
  have hD := hD0.self (sz := s.heap.size)
  generalize hAe : va_A (wc_c_M_fullest cyB cyI cyJ cyZ cyO h1 md g) s.heap.size = A at hD ⊢
  have hA : ∀ q : Nat, s.heap.size ≤ q → A q := fun q h => by rw [← hAe]; exact Or.inr h
  have hS : va_S A s.heap s.heap [] := va_S.rf
  have hl := lv_entry ([.ref h1]) (n := 5) (Nat.le_of_ble_eq_true rfl)
  rw [lg_entry_eq]
  generalize (lg_sl ([.ref h1]) ++ List.replicate (5 - (lg_sl ([.ref h1])).length) Slot.unset).toArray = ls at hl ⊢
  have hl : lv_has ls 5 [(0, .ref h1)] := hl
  refine lv_iconst (v := (-1)) hx hb dX7_fullest_0 (by decide) ?_
  refine lv_istore_n (lv' := [(1, .int (-1)), (0, .ref h1)]) hx hb dX7_fullest_1 rfl hl (by decide) rfl (fun ls hl => ?_)
  refine lv_iconst (v := (-1)) hx hb dX7_fullest_2 (by decide) ?_
  refine lv_istore_n (lv' := [(2, .int (-1)), (1, .int (-1)), (0, .ref h1)]) hx hb dX7_fullest_3 rfl hl (by decide) rfl (fun ls hl => ?_)
  refine lv_iconst (v := 0) hx hb dX7_fullest_4 (by decide) ?_
  refine lv_istore_n (lv' := [(3, .int 0), (2, .int (-1)), (1, .int (-1)), (0, .ref h1)]) hx hb dX7_fullest_5 rfl hl (by decide) rfl (fun ls hl => ?_)
  refine lv_iload_n hx hb dX7_fullest_6 rfl (lv_at hl 0 rfl) ?_
  refine lv_iconst (v := 1) hx hb dX7_fullest_7 (by decide) ?_
  refine lv_iadd hx hb dX7_fullest_8 ?_
  refine tp_c (w := 1) (by decide) ?_
  refine lv_aload_n hx hb dX7_fullest_9 rfl (lv_at hl 3 rfl) ?_
  refine gf_i (wr := []) (va_runV (As := []) (rest := [.int 1]) hfix (k_X7_lots_v5 l dC dI cyB cyI cyJ cyZ cyO h1 md g _ hg) (cwV 0 hts (gi_V (ow_m (k := 0) rfl) (ow_m (k := 1) rfl) (ow_m (k := 2) rfl) (ow_m (k := 3) rfl) (sb_c sb_l) gd_k_X7_lots_v5) rfl rfl rfl (by decide +kernel) ⟨Nat.le_of_ble_eq_true rfl, Nat.le_of_ble_eq_true rfl⟩) (g_preV hKN hP hD [0, 1] rfl (by decide) 0 7 rfl rfl) rfl rfl hl.1 rfl (lv_room (Nat.le_of_ble_eq_true rfl)) dX7_fullest_10 ⟨Nat.le_of_ble_eq_true rfl, Nat.le_of_ble_eq_true rfl⟩) hP hD hS hA [0, 1] [] rfl rfl (by decide) (by decide) (fun r2630 u2631 H locs qu2631 hP hD hS => ?_)
  have hP : va_P (dC, dI) vwCl [(h1, .inr (7, [.ref (md 0), .ref (md 1), .int 0, .int 0, .int 0, .int (-1), .int 0, .int 0, .int 0, .int 0, .long 0, .ref (md 11), .ref (md 12), .ref (md 13), .ref (md 14), .ref (md 15), .ref (md 16), .ref (md 17), .ref (md 18), .ref (md 19), .ref (md 20), .ref (md 21), .ref (md 22), .ref (md 23), .ref (md 24), .ref (md 25), .ref (md 26), .ref (md 27), .ref (md 28), .int 0, .int 0, .int 0, .int 0, .int 0, .int 0, .int 0, .int 0, .int 0, .int 0, .int 0, .ref (md 40), .ref (md 41), .int 0, .int 0, .ref (md 44), .int 0, .int 0, .ref (md 47), .ref (md 48), .int 0, .ref (md 50), .ref (md 51), .ref (md 52), .ref (md 53), .ref (md 54), .int 0, .int 0, .ref (md 57), .ref (md 58)])), (md 40, .inl (cyI, 520, .inl g))] H := hP
  have hD : va_D A [(h1, .inr (7, [.ref (md 0), .ref (md 1), .int 0, .int 0, .int 0, .int (-1), .int 0, .int 0, .int 0, .int 0, .long 0, .ref (md 11), .ref (md 12), .ref (md 13), .ref (md 14), .ref (md 15), .ref (md 16), .ref (md 17), .ref (md 18), .ref (md 19), .ref (md 20), .ref (md 21), .ref (md 22), .ref (md 23), .ref (md 24), .ref (md 25), .ref (md 26), .ref (md 27), .ref (md 28), .int 0, .int 0, .int 0, .int 0, .int 0, .int 0, .int 0, .int 0, .int 0, .int 0, .int 0, .ref (md 40), .ref (md 41), .int 0, .int 0, .ref (md 44), .int 0, .int 0, .ref (md 47), .ref (md 48), .int 0, .ref (md 50), .ref (md 51), .ref (md 52), .ref (md 53), .ref (md 54), .int 0, .int 0, .ref (md 57), .ref (md 58)])), (md 40, .inl (cyI, 520, .inl g))] := hD
  refine tp_c (w := 0) qu2631 ?_
  refine lv_icmp_ge (tgt := 51) hx hb dX7_fullest_13 (by decide) (fun _ => ?_) (fun c2632 => absurd (by decide) c2632)
  refine lv_iload_n hx hb dX7_fullest_51 rfl (lv_at hl 2 rfl) ?_
  exact W.iret (v := (-1)) hx hb hr (fun t ht hW => ⟨⟨(-1), (), rfl, rfl, cE.nil⟩, hS.F ht⟩) hS.2.2 dX7_fullest_52
def wo_k_X7_canWrite : List Cond := [.methodLink RX7 313 yX7_lots, .instanceMethod yX7_lots, .selects RX7 yX7_lots yX7_lots, .initialized RX7]
def wq_k_X7_canWrite : List Cond := .code yX7_canWrite cX7_canWrite 1 (some .boolean) :: (wo_k_X7_canWrite ++ (wq_k_X7_lots_v5 ++ []))
theorem gd_k_X7_canWrite : Gd wq_k_X7_canWrite := gd_c (gd_a (gd_o (by decide +kernel)) (gd_a gd_k_X7_lots_v5 gd_0))
abbrev wc_k_X7_canWrite (cyB cyI cyJ cyZ cyO : ClassId) (h1 : Nat) (md : Nat → Nat) (g : Nat → Int32) : va_W := [(h1, .inr (7, [.ref (md 0), .ref (md 1), .int 0, .int 0, .int 0, .int (-1), .int 0, .int 0, .int 0, .int 0, .long 0, .ref (md 11), .ref (md 12), .ref (md 13), .ref (md 14), .ref (md 15), .ref (md 16), .ref (md 17), .ref (md 18), .ref (md 19), .ref (md 20), .ref (md 21), .ref (md 22), .ref (md 23), .ref (md 24), .ref (md 25), .ref (md 26), .ref (md 27), .ref (md 28), .int 0, .int 0, .int 0, .int 0, .int 0, .int 0, .int 0, .int 0, .int 0, .int 0, .int 0, .ref (md 40), .ref (md 41), .int 0, .int 0, .ref (md 44), .int 0, .int 0, .ref (md 47), .ref (md 48), .int 0, .ref (md 50), .ref (md 51), .ref (md 52), .ref (md 53), .ref (md 54), .int 0, .int 0, .ref (md 57), .ref (md 58)])), (md 40, .inl (cyI, 520, .inl g))]
set_option maxHeartbeats 4000000 in
set_option maxRecDepth 100000 in
theorem k_X7_canWrite (l : Launch) (dC : Nat → ClassId) (dI : Nat → Nat → Nat) (cyB cyI cyJ cyZ cyO : ClassId) (h1 : Nat) (md : Nat → Nat) (g : Nat → Int32) (sz : Nat) (hg : AllZ g) : Met l yX7_canWrite wq_k_X7_canWrite ({ frames := 1, cells := 0, slots := 0, locals := 20 }) (va_Pc [.ref h1] (cB (dC, dI) (kT cyB cyI cyJ cyZ cyO) (wc_k_X7_canWrite cyB cyI cyJ cyZ cyO h1 md g) sz)) (va_Qi (fun (r : Int32) _ => r = 0) (fun (u : Unit) t => cE (dC, dI) (va_A (wc_k_X7_canWrite cyB cyI cyJ cyZ cyO h1 md g) sz) ([(h1, .inr (7, [.ref (md 0), .ref (md 1), .int 0, .int 0, .int 0, .int (-1), .int 0, .int 0, .int 0, .int 0, .long 0, .ref (md 11), .ref (md 12), .ref (md 13), .ref (md 14), .ref (md 15), .ref (md 16), .ref (md 17), .ref (md 18), .ref (md 19), .ref (md 20), .ref (md 21), .ref (md 22), .ref (md 23), .ref (md 24), .ref (md 25), .ref (md 26), .ref (md 27), .ref (md 28), .int 0, .int 0, .int 0, .int 0, .int 0, .int 0, .int 0, .int 0, .int 0, .int 0, .int 0, .ref (md 40), .ref (md 41), .int 0, .int 0, .ref (md 44), .int 0, .int 0, .ref (md 47), .ref (md 48), .int 0, .ref (md 50), .ref (md 51), .ref (md 52), .ref (md 53), .ref (md 54), .int 0, .int 0, .ref (md 57), .ref (md 58)])), (md 40, .inl (cyI, 520, .inl g))]) t.heap) (va_A (wc_k_X7_canWrite cyB cyI cyJ cyZ cyO h1 md g) sz)) 0 0 (va_A (wc_k_X7_canWrite cyB cyI cyJ cyZ cyO h1 md g) sz) := by
  refine Met.ofW (cc := cX7_canWrite) (maxL := 1) (ret := (some .boolean)) (by decide) rfl ?_
  intro p e s m args below meth c s₁ B hml hv
  obtain ⟨rfl, hsz, hP, hKN, hD0⟩ := hv
  have hx := B.exec
  have hb := B.bytes
  have hr := B.returns
  have hts := atoms_spec (ws := wq_k_X7_canWrite) B.pre
  have hown : s.vm.findClass RX7 = some m.cls := findClass_of_methodNamed B.named
  have hlocks := B.notSynchronized
  have hK := hKN.1
  have hfix : CallFix p m c cX7_canWrite 1 s [.ref h1].toArray wq_k_X7_canWrite RX7 := ⟨hx, hb, hml, hown, hts⟩
  subst hsz
  have hD := hD0.self (sz := s.heap.size)
  generalize hAe : va_A (wc_k_X7_canWrite cyB cyI cyJ cyZ cyO h1 md g) s.heap.size = A at hD ⊢
  have hA : ∀ q : Nat, s.heap.size ≤ q → A q := fun q h => by rw [← hAe]; exact Or.inr h
  have hS : va_S A s.heap s.heap [] := va_S.rf
  have hl := lv_entry ([.ref h1]) (n := 1) (Nat.le_of_ble_eq_true rfl)
  rw [lg_entry_eq]
  generalize (lg_sl ([.ref h1]) ++ List.replicate (1 - (lg_sl ([.ref h1])).length) Slot.unset).toArray = ls at hl ⊢
  have hl : lv_has ls 1 [(0, .ref h1)] := hl
  refine lv_aload_n hx hb dX7_canWrite_0 rfl (lv_at hl 0 rfl) ?_
  refine gf_i (wr := []) (va_runV (As := []) (rest := []) hfix (k_X7_lots_v5 l dC dI cyB cyI cyJ cyZ cyO h1 md g _ hg) (cwV 0 hts (gi_V (ow_m (k := 0) rfl) (ow_m (k := 1) rfl) (ow_m (k := 2) rfl) (ow_m (k := 3) rfl) (sb_c sb_l) gd_k_X7_lots_v5) rfl rfl rfl (by decide +kernel) ⟨Nat.le_of_ble_eq_true rfl, Nat.le_of_ble_eq_true rfl⟩) (g_preV hKN hP hD [0, 1] rfl (by decide) 0 7 rfl rfl) rfl rfl hl.1 rfl (lv_room (Nat.le_of_ble_eq_true rfl)) dX7_canWrite_1 ⟨Nat.le_of_ble_eq_true rfl, Nat.le_of_ble_eq_true rfl⟩) hP hD hS hA [0, 1] [] rfl rfl (by decide) (by decide) (fun r2636 u2637 H locs qu2637 hP hD hS => ?_)
  have hP : va_P (dC, dI) vwCl [(h1, .inr (7, [.ref (md 0), .ref (md 1), .int 0, .int 0, .int 0, .int (-1), .int 0, .int 0, .int 0, .int 0, .long 0, .ref (md 11), .ref (md 12), .ref (md 13), .ref (md 14), .ref (md 15), .ref (md 16), .ref (md 17), .ref (md 18), .ref (md 19), .ref (md 20), .ref (md 21), .ref (md 22), .ref (md 23), .ref (md 24), .ref (md 25), .ref (md 26), .ref (md 27), .ref (md 28), .int 0, .int 0, .int 0, .int 0, .int 0, .int 0, .int 0, .int 0, .int 0, .int 0, .int 0, .ref (md 40), .ref (md 41), .int 0, .int 0, .ref (md 44), .int 0, .int 0, .ref (md 47), .ref (md 48), .int 0, .ref (md 50), .ref (md 51), .ref (md 52), .ref (md 53), .ref (md 54), .int 0, .int 0, .ref (md 57), .ref (md 58)])), (md 40, .inl (cyI, 520, .inl g))] H := hP
  have hD : va_D A [(h1, .inr (7, [.ref (md 0), .ref (md 1), .int 0, .int 0, .int 0, .int (-1), .int 0, .int 0, .int 0, .int 0, .long 0, .ref (md 11), .ref (md 12), .ref (md 13), .ref (md 14), .ref (md 15), .ref (md 16), .ref (md 17), .ref (md 18), .ref (md 19), .ref (md 20), .ref (md 21), .ref (md 22), .ref (md 23), .ref (md 24), .ref (md 25), .ref (md 26), .ref (md 27), .ref (md 28), .int 0, .int 0, .int 0, .int 0, .int 0, .int 0, .int 0, .int 0, .int 0, .int 0, .int 0, .ref (md 40), .ref (md 41), .int 0, .int 0, .ref (md 44), .int 0, .int 0, .ref (md 47), .ref (md 48), .int 0, .ref (md 50), .ref (md 51), .ref (md 52), .ref (md 53), .ref (md 54), .int 0, .int 0, .ref (md 57), .ref (md 58)])), (md 40, .inl (cyI, 520, .inl g))] := hD
  refine tp_c (w := 0) qu2637 ?_
  refine lv_if_le (tgt := 21) hx hb dX7_canWrite_4 (by decide) (fun _ => ?_) (fun c2638 => absurd (by decide) c2638)
  refine lv_iconst (v := 0) hx hb dX7_canWrite_21 (by decide) ?_
  exact W.zret (v := 0) hx hb hr (by decide) (fun t ht hW => ⟨⟨0, (), rfl, rfl, cE.of ht hP hD [0, 1] (by decide) rfl⟩, hS.F ht⟩) hS.2.2 dX7_canWrite_22
def wo_c_M_trip : List Cond := [.methodLink RX7 456 yX7_canWrite, .instanceMethod yX7_canWrite, .selects RX7 yX7_canWrite yX7_canWrite, .initialized RX7]
def wq_c_M_trip : List Cond := .code yX7_trip cX7_trip 1 (some .int) :: (wo_c_M_trip ++ (wq_k_X7_canWrite ++ []))
theorem gd_c_M_trip : Gd wq_c_M_trip := gd_c (gd_a (gd_o (by decide +kernel)) (gd_a gd_k_X7_canWrite gd_0))
abbrev wc_c_M_trip (cyB cyI cyJ cyZ cyO : ClassId) (h1 : Nat) (md : Nat → Nat) (g : Nat → Int32) : va_W := [(h1, .inr (7, [.ref (md 0), .ref (md 1), .int 0, .int 0, .int 0, .int (-1), .int 0, .int 0, .int 0, .int 0, .long 0, .ref (md 11), .ref (md 12), .ref (md 13), .ref (md 14), .ref (md 15), .ref (md 16), .ref (md 17), .ref (md 18), .ref (md 19), .ref (md 20), .ref (md 21), .ref (md 22), .ref (md 23), .ref (md 24), .ref (md 25), .ref (md 26), .ref (md 27), .ref (md 28), .int 0, .int 0, .int 0, .int 0, .int 0, .int 0, .int 0, .int 0, .int 0, .int 0, .int 0, .ref (md 40), .ref (md 41), .int 0, .int 0, .ref (md 44), .int 0, .int 0, .ref (md 47), .ref (md 48), .int 0, .ref (md 50), .ref (md 51), .ref (md 52), .ref (md 53), .ref (md 54), .int 0, .int 0, .ref (md 57), .ref (md 58)])), (md 40, .inl (cyI, 520, .inl g))]
set_option maxHeartbeats 4000000 in
set_option maxRecDepth 100000 in
theorem c_M_trip (l : Launch) (dC : Nat → ClassId) (dI : Nat → Nat → Nat) (cyB cyI cyJ cyZ cyO : ClassId) (h1 : Nat) (md : Nat → Nat) (g : Nat → Int32) (sz : Nat) (hg : AllZ g) : Met l yX7_trip wq_c_M_trip ({ frames := 2, cells := 0, slots := 0, locals := 40 }) (va_Pc [.ref h1] (cB (dC, dI) (kT cyB cyI cyJ cyZ cyO) (wc_c_M_trip cyB cyI cyJ cyZ cyO h1 md g) sz)) (va_Qi (fun (r : Int32) (_ : Unit) => r = -1) (fun (u : Unit) t => cE (dC, dI) (va_A (wc_c_M_trip cyB cyI cyJ cyZ cyO h1 md g) sz) ([]) t.heap) (va_A (wc_c_M_trip cyB cyI cyJ cyZ cyO h1 md g) sz)) 0 0 (va_A (wc_c_M_trip cyB cyI cyJ cyZ cyO h1 md g) sz) := by
  refine Met.ofW (cc := cX7_trip) (maxL := 1) (ret := (some .int)) (by decide) rfl ?_
  intro p e s m args below meth c s₁ B hml hv
  obtain ⟨rfl, hsz, hP, hKN, hD0⟩ := hv
  have hx := B.exec
  have hb := B.bytes
  have hr := B.returns
  have hts := atoms_spec (ws := wq_c_M_trip) B.pre
  have hown : s.vm.findClass RX7 = some m.cls := findClass_of_methodNamed B.named
  have hlocks := B.notSynchronized
  have hK := hKN.1
  have hfix : CallFix p m c cX7_trip 1 s [.ref h1].toArray wq_c_M_trip RX7 := ⟨hx, hb, hml, hown, hts⟩
  subst hsz
  have hD := hD0.self (sz := s.heap.size)
  generalize hAe : va_A (wc_c_M_trip cyB cyI cyJ cyZ cyO h1 md g) s.heap.size = A at hD ⊢
  have hA : ∀ q : Nat, s.heap.size ≤ q → A q := fun q h => by rw [← hAe]; exact Or.inr h
  have hS : va_S A s.heap s.heap [] := va_S.rf
  have hl := lv_entry ([.ref h1]) (n := 1) (Nat.le_of_ble_eq_true rfl)
  rw [lg_entry_eq]
  generalize (lg_sl ([.ref h1]) ++ List.replicate (1 - (lg_sl ([.ref h1])).length) Slot.unset).toArray = ls at hl ⊢
  have hl : lv_has ls 1 [(0, .ref h1)] := hl
  refine lv_aload_n hx hb dX7_trip_0 rfl (lv_at hl 0 rfl) ?_
  refine gf_i (wr := []) (va_runV (As := []) (rest := []) hfix (k_X7_canWrite l dC dI cyB cyI cyJ cyZ cyO h1 md g _ hg) (cwV 0 hts (gi_V (ow_m (k := 0) rfl) (ow_m (k := 1) rfl) (ow_m (k := 2) rfl) (ow_m (k := 3) rfl) (sb_c sb_l) gd_k_X7_canWrite) rfl rfl rfl (by decide +kernel) ⟨Nat.le_of_ble_eq_true rfl, Nat.le_of_ble_eq_true rfl⟩) (g_preV hKN hP hD [0, 1] rfl (by decide) 0 7 rfl rfl) rfl rfl hl.1 rfl (lv_room (Nat.le_of_ble_eq_true rfl)) dX7_trip_1 ⟨Nat.le_of_ble_eq_true rfl, Nat.le_of_ble_eq_true rfl⟩) hP hD hS hA [0, 1] [] rfl rfl (by decide) (by decide) (fun r2645 u2646 H locs qu2646 hP hD hS => ?_)
  have hP : va_P (dC, dI) vwCl [(h1, .inr (7, [.ref (md 0), .ref (md 1), .int 0, .int 0, .int 0, .int (-1), .int 0, .int 0, .int 0, .int 0, .long 0, .ref (md 11), .ref (md 12), .ref (md 13), .ref (md 14), .ref (md 15), .ref (md 16), .ref (md 17), .ref (md 18), .ref (md 19), .ref (md 20), .ref (md 21), .ref (md 22), .ref (md 23), .ref (md 24), .ref (md 25), .ref (md 26), .ref (md 27), .ref (md 28), .int 0, .int 0, .int 0, .int 0, .int 0, .int 0, .int 0, .int 0, .int 0, .int 0, .int 0, .ref (md 40), .ref (md 41), .int 0, .int 0, .ref (md 44), .int 0, .int 0, .ref (md 47), .ref (md 48), .int 0, .ref (md 50), .ref (md 51), .ref (md 52), .ref (md 53), .ref (md 54), .int 0, .int 0, .ref (md 57), .ref (md 58)])), (md 40, .inl (cyI, 520, .inl g))] H := hP
  have hD : va_D A [(h1, .inr (7, [.ref (md 0), .ref (md 1), .int 0, .int 0, .int 0, .int (-1), .int 0, .int 0, .int 0, .int 0, .long 0, .ref (md 11), .ref (md 12), .ref (md 13), .ref (md 14), .ref (md 15), .ref (md 16), .ref (md 17), .ref (md 18), .ref (md 19), .ref (md 20), .ref (md 21), .ref (md 22), .ref (md 23), .ref (md 24), .ref (md 25), .ref (md 26), .ref (md 27), .ref (md 28), .int 0, .int 0, .int 0, .int 0, .int 0, .int 0, .int 0, .int 0, .int 0, .int 0, .int 0, .ref (md 40), .ref (md 41), .int 0, .int 0, .ref (md 44), .int 0, .int 0, .ref (md 47), .ref (md 48), .int 0, .ref (md 50), .ref (md 51), .ref (md 52), .ref (md 53), .ref (md 54), .int 0, .int 0, .ref (md 57), .ref (md 58)])), (md 40, .inl (cyI, 520, .inl g))] := hD
  refine tp_c (w := 0) qu2646 ?_
  refine lv_if_eq (tgt := 15) hx hb dX7_trip_4 (by decide) (fun _ => ?_) (fun c2647 => absurd (by decide) c2647)
  refine lv_iconst (v := (-1)) hx hb dX7_trip_15 (by decide) ?_
  exact W.iret (v := (-1)) hx hb hr (fun t ht hW => ⟨⟨(-1), (), rfl, rfl, cE.nil⟩, hS.F ht⟩) hS.2.2 dX7_trip_16
def wo_c_M_without : List Cond := [.methodLink RX7 456 yX7_canWrite, .instanceMethod yX7_canWrite, .selects RX7 yX7_canWrite yX7_canWrite, .initialized RX7]
def wq_c_M_without : List Cond := .code yX7_without cX7_without 2 (some .int) :: (wo_c_M_without ++ (wq_k_X7_canWrite ++ []))
theorem gd_c_M_without : Gd wq_c_M_without := gd_c (gd_a (gd_o (by decide +kernel)) (gd_a gd_k_X7_canWrite gd_0))
abbrev wc_c_M_without (cyB cyI cyJ cyZ cyO : ClassId) (h1 : Nat) (md : Nat → Nat) (g : Nat → Int32) (x1 : Int32) : va_W := [(h1, .inr (7, [.ref (md 0), .ref (md 1), .int 0, .int 0, .int 0, .int (-1), .int 0, .int 0, .int 0, .int 0, .long 0, .ref (md 11), .ref (md 12), .ref (md 13), .ref (md 14), .ref (md 15), .ref (md 16), .ref (md 17), .ref (md 18), .ref (md 19), .ref (md 20), .ref (md 21), .ref (md 22), .ref (md 23), .ref (md 24), .ref (md 25), .ref (md 26), .ref (md 27), .ref (md 28), .int 0, .int 0, .int 0, .int 0, .int 0, .int 0, .int 0, .int 0, .int 0, .int 0, .int 0, .ref (md 40), .ref (md 41), .int 0, .int 0, .ref (md 44), .int 0, .int 0, .ref (md 47), .ref (md 48), .int 0, .ref (md 50), .ref (md 51), .ref (md 52), .ref (md 53), .ref (md 54), .int 0, .int 0, .ref (md 57), .ref (md 58)])), (md 40, .inl (cyI, 520, .inl g))]
set_option maxHeartbeats 4000000 in
set_option maxRecDepth 100000 in
theorem c_M_without (l : Launch) (dC : Nat → ClassId) (dI : Nat → Nat → Nat) (cyB cyI cyJ cyZ cyO : ClassId) (h1 : Nat) (md : Nat → Nat) (g : Nat → Int32) (x1 : Int32) (sz : Nat) (hg : AllZ g) : Met l yX7_without wq_c_M_without ({ frames := 2, cells := 0, slots := 0, locals := 40 }) (va_Pc [.ref h1, .int x1] (cB (dC, dI) (kT cyB cyI cyJ cyZ cyO) (wc_c_M_without cyB cyI cyJ cyZ cyO h1 md g x1) sz)) (va_Qi (fun (r : Int32) (_ : Unit) => r = -1) (fun (u : Unit) t => cE (dC, dI) (va_A (wc_c_M_without cyB cyI cyJ cyZ cyO h1 md g x1) sz) ([]) t.heap) (va_A (wc_c_M_without cyB cyI cyJ cyZ cyO h1 md g x1) sz)) 0 0 (va_A (wc_c_M_without cyB cyI cyJ cyZ cyO h1 md g x1) sz) := by
  refine Met.ofW (cc := cX7_without) (maxL := 2) (ret := (some .int)) (by decide) rfl ?_
  intro p e s m args below meth c s₁ B hml hv
  obtain ⟨rfl, hsz, hP, hKN, hD0⟩ := hv
  have hx := B.exec
  have hb := B.bytes
  have hr := B.returns
  have hts := atoms_spec (ws := wq_c_M_without) B.pre
  have hown : s.vm.findClass RX7 = some m.cls := findClass_of_methodNamed B.named
  have hlocks := B.notSynchronized
  have hK := hKN.1
  have hfix : CallFix p m c cX7_without 2 s [.ref h1, .int x1].toArray wq_c_M_without RX7 := ⟨hx, hb, hml, hown, hts⟩
  subst hsz
  have hD := hD0.self (sz := s.heap.size)
  generalize hAe : va_A (wc_c_M_without cyB cyI cyJ cyZ cyO h1 md g x1) s.heap.size = A at hD ⊢
  have hA : ∀ q : Nat, s.heap.size ≤ q → A q := fun q h => by rw [← hAe]; exact Or.inr h
  have hS : va_S A s.heap s.heap [] := va_S.rf
  have hl := lv_entry ([.ref h1, .int x1]) (n := 2) (Nat.le_of_ble_eq_true rfl)
  rw [lg_entry_eq]
  generalize (lg_sl ([.ref h1, .int x1]) ++ List.replicate (2 - (lg_sl ([.ref h1, .int x1])).length) Slot.unset).toArray = ls at hl ⊢
  have hl : lv_has ls 2 [(0, .ref h1), (1, .int x1)] := hl
  refine lv_aload_n hx hb dX7_without_0 rfl (lv_at hl 0 rfl) ?_
  refine gf_i (wr := []) (va_runV (As := []) (rest := []) hfix (k_X7_canWrite l dC dI cyB cyI cyJ cyZ cyO h1 md g _ hg) (cwV 0 hts (gi_V (ow_m (k := 0) rfl) (ow_m (k := 1) rfl) (ow_m (k := 2) rfl) (ow_m (k := 3) rfl) (sb_c sb_l) gd_k_X7_canWrite) rfl rfl rfl (by decide +kernel) ⟨Nat.le_of_ble_eq_true rfl, Nat.le_of_ble_eq_true rfl⟩) (g_preV hKN hP hD [0, 1] rfl (by decide) 0 7 rfl rfl) rfl rfl hl.1 rfl (lv_room (Nat.le_of_ble_eq_true rfl)) dX7_without_1 ⟨Nat.le_of_ble_eq_true rfl, Nat.le_of_ble_eq_true rfl⟩) hP hD hS hA [0, 1] [] rfl rfl (by decide) (by decide) (fun r2657 u2658 H locs qu2658 hP hD hS => ?_)
  have hP : va_P (dC, dI) vwCl [(h1, .inr (7, [.ref (md 0), .ref (md 1), .int 0, .int 0, .int 0, .int (-1), .int 0, .int 0, .int 0, .int 0, .long 0, .ref (md 11), .ref (md 12), .ref (md 13), .ref (md 14), .ref (md 15), .ref (md 16), .ref (md 17), .ref (md 18), .ref (md 19), .ref (md 20), .ref (md 21), .ref (md 22), .ref (md 23), .ref (md 24), .ref (md 25), .ref (md 26), .ref (md 27), .ref (md 28), .int 0, .int 0, .int 0, .int 0, .int 0, .int 0, .int 0, .int 0, .int 0, .int 0, .int 0, .ref (md 40), .ref (md 41), .int 0, .int 0, .ref (md 44), .int 0, .int 0, .ref (md 47), .ref (md 48), .int 0, .ref (md 50), .ref (md 51), .ref (md 52), .ref (md 53), .ref (md 54), .int 0, .int 0, .ref (md 57), .ref (md 58)])), (md 40, .inl (cyI, 520, .inl g))] H := hP
  have hD : va_D A [(h1, .inr (7, [.ref (md 0), .ref (md 1), .int 0, .int 0, .int 0, .int (-1), .int 0, .int 0, .int 0, .int 0, .long 0, .ref (md 11), .ref (md 12), .ref (md 13), .ref (md 14), .ref (md 15), .ref (md 16), .ref (md 17), .ref (md 18), .ref (md 19), .ref (md 20), .ref (md 21), .ref (md 22), .ref (md 23), .ref (md 24), .ref (md 25), .ref (md 26), .ref (md 27), .ref (md 28), .int 0, .int 0, .int 0, .int 0, .int 0, .int 0, .int 0, .int 0, .int 0, .int 0, .int 0, .ref (md 40), .ref (md 41), .int 0, .int 0, .ref (md 44), .int 0, .int 0, .ref (md 47), .ref (md 48), .int 0, .ref (md 50), .ref (md 51), .ref (md 52), .ref (md 53), .ref (md 54), .int 0, .int 0, .ref (md 57), .ref (md 58)])), (md 40, .inl (cyI, 520, .inl g))] := hD
  refine tp_c (w := 0) qu2658 ?_
  refine lv_if_eq (tgt := 31) hx hb dX7_without_4 (by decide) (fun _ => ?_) (fun c2659 => absurd (by decide) c2659)
  refine lv_iconst (v := (-1)) hx hb dX7_without_31 (by decide) ?_
  exact W.iret (v := (-1)) hx hb hr (fun t ht hW => ⟨⟨(-1), (), rfl, rfl, cE.nil⟩, hS.F ht⟩) hS.2.2 dX7_without_32
def wo_c_M_latest : List Cond := [.methodLink RX7 438 yX7_isKey, .instanceMethod yX7_isKey, .selects RX7 yX7_isKey yX7_isKey, .initialized RX7]
def wq_c_M_latest : List Cond := .code yX7_latest cX7_latest 2 (some .int) :: (wo_c_M_latest ++ (wq_k_X7_isKey ++ []))
theorem gd_c_M_latest : Gd wq_c_M_latest := gd_c (gd_a (gd_o (by decide +kernel)) (gd_a gd_k_X7_isKey gd_0))
abbrev wc_c_M_latest (cyB cyI cyJ cyZ cyO : ClassId) (h1 : Nat) (md : Nat → Nat) (x1 : Int32) : va_W := [(h1, .inr (7, [.ref (md 0), .ref (md 1), .int 0, .int 0, .int 0, .int (-1), .int 0, .int 0, .int 0, .int 0, .long 0, .ref (md 11), .ref (md 12), .ref (md 13), .ref (md 14), .ref (md 15), .ref (md 16), .ref (md 17), .ref (md 18), .ref (md 19), .ref (md 20), .ref (md 21), .ref (md 22), .ref (md 23), .ref (md 24), .ref (md 25), .ref (md 26), .ref (md 27), .ref (md 28), .int 0, .int 0, .int 0, .int 0, .int 0, .int 0, .int 0, .int 0, .int 0, .int 0, .int 0, .ref (md 40), .ref (md 41), .int 0, .int 0, .ref (md 44), .int 0, .int 0, .ref (md 47), .ref (md 48), .int 0, .ref (md 50), .ref (md 51), .ref (md 52), .ref (md 53), .ref (md 54), .int 0, .int 0, .ref (md 57), .ref (md 58)])), (md 13, .inl (cyI, 2, .inl (fun _ => 0)))]
set_option maxHeartbeats 4000000 in
set_option maxRecDepth 100000 in
theorem c_M_latest (l : Launch) (dC : Nat → ClassId) (dI : Nat → Nat → Nat) (cyB cyI cyJ cyZ cyO : ClassId) (h1 : Nat) (md : Nat → Nat) (x1 : Int32) (sz : Nat) : Met l yX7_latest wq_c_M_latest ({ frames := 2, cells := 0, slots := 0, locals := 43 }) (va_Pc [.ref h1, .int x1] (cB (dC, dI) (kT cyB cyI cyJ cyZ cyO) (wc_c_M_latest cyB cyI cyJ cyZ cyO h1 md x1) sz)) (va_Qi (fun (r : Int32) (_ : Unit) => r = -1) (fun (u : Unit) t => cE (dC, dI) (va_A (wc_c_M_latest cyB cyI cyJ cyZ cyO h1 md x1) sz) ([]) t.heap) (va_A (wc_c_M_latest cyB cyI cyJ cyZ cyO h1 md x1) sz)) 0 0 (va_A (wc_c_M_latest cyB cyI cyJ cyZ cyO h1 md x1) sz) := by
  refine Met.ofW (cc := cX7_latest) (maxL := 2) (ret := (some .int)) (by decide) rfl ?_
  intro p e s m args below meth c s₁ B hml hv
  obtain ⟨rfl, hsz, hP, hKN, hD0⟩ := hv
  have hx := B.exec
  have hb := B.bytes
  have hr := B.returns
  have hts := atoms_spec (ws := wq_c_M_latest) B.pre
  have hown : s.vm.findClass RX7 = some m.cls := findClass_of_methodNamed B.named
  have hlocks := B.notSynchronized
  have hK := hKN.1
  have hfix : CallFix p m c cX7_latest 2 s [.ref h1, .int x1].toArray wq_c_M_latest RX7 := ⟨hx, hb, hml, hown, hts⟩
  subst hsz
  have hD := hD0.self (sz := s.heap.size)
  generalize hAe : va_A (wc_c_M_latest cyB cyI cyJ cyZ cyO h1 md x1) s.heap.size = A at hD ⊢
  have hA : ∀ q : Nat, s.heap.size ≤ q → A q := fun q h => by rw [← hAe]; exact Or.inr h
  have hS : va_S A s.heap s.heap [] := va_S.rf
  have hl := lv_entry ([.ref h1, .int x1]) (n := 2) (Nat.le_of_ble_eq_true rfl)
  rw [lg_entry_eq]
  generalize (lg_sl ([.ref h1, .int x1]) ++ List.replicate (2 - (lg_sl ([.ref h1, .int x1])).length) Slot.unset).toArray = ls at hl ⊢
  have hl : lv_has ls 2 [(0, .ref h1), (1, .int x1)] := hl
  refine lv_aload_n hx hb dX7_latest_0 rfl (lv_at hl 0 rfl) ?_
  refine lv_iload_n hx hb dX7_latest_1 rfl (lv_at hl 1 rfl) ?_
  refine gf_i (wr := []) (va_runV (As := [.int x1]) (rest := []) hfix (k_X7_isKey l dC dI cyB cyI cyJ cyZ cyO h1 md x1 _) (cwV 1 hts (gi_V (ow_m (k := 0) rfl) (ow_m (k := 1) rfl) (ow_m (k := 2) rfl) (ow_m (k := 3) rfl) (sb_c sb_l) gd_k_X7_isKey) rfl rfl rfl (by decide +kernel) ⟨Nat.le_of_ble_eq_true rfl, Nat.le_of_ble_eq_true rfl⟩) (g_preV hKN hP hD [0, 1] rfl (by decide) 0 7 rfl rfl) rfl rfl hl.1 rfl (lv_room (Nat.le_of_ble_eq_true rfl)) dX7_latest_2 ⟨Nat.le_of_ble_eq_true rfl, Nat.le_of_ble_eq_true rfl⟩) hP hD hS hA [0, 1] [] rfl rfl (by decide) (by decide) (fun r2681 u2682 H locs qu2682 hP hD hS => ?_)
  have hP : va_P (dC, dI) vwCl [(h1, .inr (7, [.ref (md 0), .ref (md 1), .int 0, .int 0, .int 0, .int (-1), .int 0, .int 0, .int 0, .int 0, .long 0, .ref (md 11), .ref (md 12), .ref (md 13), .ref (md 14), .ref (md 15), .ref (md 16), .ref (md 17), .ref (md 18), .ref (md 19), .ref (md 20), .ref (md 21), .ref (md 22), .ref (md 23), .ref (md 24), .ref (md 25), .ref (md 26), .ref (md 27), .ref (md 28), .int 0, .int 0, .int 0, .int 0, .int 0, .int 0, .int 0, .int 0, .int 0, .int 0, .int 0, .ref (md 40), .ref (md 41), .int 0, .int 0, .ref (md 44), .int 0, .int 0, .ref (md 47), .ref (md 48), .int 0, .ref (md 50), .ref (md 51), .ref (md 52), .ref (md 53), .ref (md 54), .int 0, .int 0, .ref (md 57), .ref (md 58)])), (md 13, .inl (cyI, 2, .inl (fun _ => 0)))] H := hP
  have hD : va_D A [(h1, .inr (7, [.ref (md 0), .ref (md 1), .int 0, .int 0, .int 0, .int (-1), .int 0, .int 0, .int 0, .int 0, .long 0, .ref (md 11), .ref (md 12), .ref (md 13), .ref (md 14), .ref (md 15), .ref (md 16), .ref (md 17), .ref (md 18), .ref (md 19), .ref (md 20), .ref (md 21), .ref (md 22), .ref (md 23), .ref (md 24), .ref (md 25), .ref (md 26), .ref (md 27), .ref (md 28), .int 0, .int 0, .int 0, .int 0, .int 0, .int 0, .int 0, .int 0, .int 0, .int 0, .int 0, .ref (md 40), .ref (md 41), .int 0, .int 0, .ref (md 44), .int 0, .int 0, .ref (md 47), .ref (md 48), .int 0, .ref (md 50), .ref (md 51), .ref (md 52), .ref (md 53), .ref (md 54), .int 0, .int 0, .ref (md 57), .ref (md 58)])), (md 13, .inl (cyI, 2, .inl (fun _ => 0)))] := hD
  rcases qu2682 with ⟨rfl, b2683⟩ | ⟨rfl, b2684, b2685⟩
  · skip
    refine lv_if_eq (tgt := 28) hx hb dX7_latest_5 (by decide) (fun _ => ?_) (fun c2686 => absurd (by decide) c2686)
    refine lv_iconst (v := (-1)) hx hb dX7_latest_28 (by decide) ?_
    exact W.iret (v := (-1)) hx hb hr (fun t ht hW => ⟨⟨(-1), (), rfl, rfl, cE.nil⟩, hS.F ht⟩) hS.2.2 dX7_latest_29
  · skip
    refine lv_if_eq (tgt := 28) hx hb dX7_latest_5 (by decide) (fun _ => ?_) (fun c2687 => absurd (by decide) c2687)
    refine lv_iconst (v := (-1)) hx hb dX7_latest_28 (by decide) ?_
    exact W.iret (v := (-1)) hx hb hr (fun t ht hW => ⟨⟨(-1), (), rfl, rfl, cE.nil⟩, hS.F ht⟩) hS.2.2 dX7_latest_29
def wo_c_M_traffic : List Cond := [.methodLink RX7 313 yX7_lots, .instanceMethod yX7_lots, .selects RX7 yX7_lots yX7_lots, .initialized RX7]
def wq_c_M_traffic : List Cond := .code yX7_traffic cX7_traffic 3 (some .int) :: (wo_c_M_traffic ++ (wq_k_X7_lots_v5 ++ []))
theorem gd_c_M_traffic : Gd wq_c_M_traffic := gd_c (gd_a (gd_o (by decide +kernel)) (gd_a gd_k_X7_lots_v5 gd_0))
abbrev wc_c_M_traffic (cyB cyI cyJ cyZ cyO : ClassId) (h1 : Nat) (md : Nat → Nat) (g : Nat → Int32) : va_W := [(h1, .inr (7, [.ref (md 0), .ref (md 1), .int 0, .int 0, .int 0, .int (-1), .int 0, .int 0, .int 0, .int 0, .long 0, .ref (md 11), .ref (md 12), .ref (md 13), .ref (md 14), .ref (md 15), .ref (md 16), .ref (md 17), .ref (md 18), .ref (md 19), .ref (md 20), .ref (md 21), .ref (md 22), .ref (md 23), .ref (md 24), .ref (md 25), .ref (md 26), .ref (md 27), .ref (md 28), .int 0, .int 0, .int 0, .int 0, .int 0, .int 0, .int 0, .int 0, .int 0, .int 0, .int 0, .ref (md 40), .ref (md 41), .int 0, .int 0, .ref (md 44), .int 0, .int 0, .ref (md 47), .ref (md 48), .int 0, .ref (md 50), .ref (md 51), .ref (md 52), .ref (md 53), .ref (md 54), .int 0, .int 0, .ref (md 57), .ref (md 58)])), (md 40, .inl (cyI, 520, .inl g))]
set_option maxHeartbeats 4000000 in
set_option maxRecDepth 100000 in
theorem c_M_traffic (l : Launch) (dC : Nat → ClassId) (dI : Nat → Nat → Nat) (cyB cyI cyJ cyZ cyO : ClassId) (h1 : Nat) (md : Nat → Nat) (g : Nat → Int32) (sz : Nat) (hg : AllZ g) : Met l yX7_traffic wq_c_M_traffic ({ frames := 1, cells := 0, slots := 0, locals := 20 }) (va_Pc [.ref h1] (cB (dC, dI) (kT cyB cyI cyJ cyZ cyO) (wc_c_M_traffic cyB cyI cyJ cyZ cyO h1 md g) sz)) (va_Qi (fun (r : Int32) (_ : Unit) => r = 0) (fun (u : Unit) t => cE (dC, dI) (va_A (wc_c_M_traffic cyB cyI cyJ cyZ cyO h1 md g) sz) ([]) t.heap) (va_A (wc_c_M_traffic cyB cyI cyJ cyZ cyO h1 md g) sz)) 0 0 (va_A (wc_c_M_traffic cyB cyI cyJ cyZ cyO h1 md g) sz) := by
  refine Met.ofW (cc := cX7_traffic) (maxL := 3) (ret := (some .int)) (by decide) rfl ?_
  intro p e s m args below meth c s₁ B hml hv
  obtain ⟨rfl, hsz, hP, hKN, hD0⟩ := hv
  have hx := B.exec
  have hb := B.bytes
  have hr := B.returns
  have hts := atoms_spec (ws := wq_c_M_traffic) B.pre
  have hown : s.vm.findClass RX7 = some m.cls := findClass_of_methodNamed B.named
  have hlocks := B.notSynchronized
  have hK := hKN.1
  have hfix : CallFix p m c cX7_traffic 3 s [.ref h1].toArray wq_c_M_traffic RX7 := ⟨hx, hb, hml, hown, hts⟩
  subst hsz
  have hD := hD0.self (sz := s.heap.size)
  generalize hAe : va_A (wc_c_M_traffic cyB cyI cyJ cyZ cyO h1 md g) s.heap.size = A at hD ⊢
  have hA : ∀ q : Nat, s.heap.size ≤ q → A q := fun q h => by rw [← hAe]; exact Or.inr h
  have hS : va_S A s.heap s.heap [] := va_S.rf
  have hl := lv_entry ([.ref h1]) (n := 3) (Nat.le_of_ble_eq_true rfl)
  rw [lg_entry_eq]
  generalize (lg_sl ([.ref h1]) ++ List.replicate (3 - (lg_sl ([.ref h1])).length) Slot.unset).toArray = ls at hl ⊢
  have hl : lv_has ls 3 [(0, .ref h1)] := hl
  refine lv_iconst (v := 0) hx hb dX7_traffic_0 (by decide) ?_
  refine lv_istore_n (lv' := [(1, .int 0), (0, .ref h1)]) hx hb dX7_traffic_1 rfl hl (by decide) rfl (fun ls hl => ?_)
  refine lv_iconst (v := 0) hx hb dX7_traffic_2 (by decide) ?_
  refine lv_istore_n (lv' := [(2, .int 0), (1, .int 0), (0, .ref h1)]) hx hb dX7_traffic_3 rfl hl (by decide) rfl (fun ls hl => ?_)
  refine lv_iload_n hx hb dX7_traffic_4 rfl (lv_at hl 0 rfl) ?_
  refine lv_iconst (v := 1) hx hb dX7_traffic_5 (by decide) ?_
  refine lv_iadd hx hb dX7_traffic_6 ?_
  refine tp_c (w := 1) (by decide) ?_
  refine lv_aload_n hx hb dX7_traffic_7 rfl (lv_at hl 2 rfl) ?_
  refine gf_i (wr := []) (va_runV (As := []) (rest := [.int 1]) hfix (k_X7_lots_v5 l dC dI cyB cyI cyJ cyZ cyO h1 md g _ hg) (cwV 0 hts (gi_V (ow_m (k := 0) rfl) (ow_m (k := 1) rfl) (ow_m (k := 2) rfl) (ow_m (k := 3) rfl) (sb_c sb_l) gd_k_X7_lots_v5) rfl rfl rfl (by decide +kernel) ⟨Nat.le_of_ble_eq_true rfl, Nat.le_of_ble_eq_true rfl⟩) (g_preV hKN hP hD [0, 1] rfl (by decide) 0 7 rfl rfl) rfl rfl hl.1 rfl (lv_room (Nat.le_of_ble_eq_true rfl)) dX7_traffic_8 ⟨Nat.le_of_ble_eq_true rfl, Nat.le_of_ble_eq_true rfl⟩) hP hD hS hA [0, 1] [] rfl rfl (by decide) (by decide) (fun r2691 u2692 H locs qu2692 hP hD hS => ?_)
  have hP : va_P (dC, dI) vwCl [(h1, .inr (7, [.ref (md 0), .ref (md 1), .int 0, .int 0, .int 0, .int (-1), .int 0, .int 0, .int 0, .int 0, .long 0, .ref (md 11), .ref (md 12), .ref (md 13), .ref (md 14), .ref (md 15), .ref (md 16), .ref (md 17), .ref (md 18), .ref (md 19), .ref (md 20), .ref (md 21), .ref (md 22), .ref (md 23), .ref (md 24), .ref (md 25), .ref (md 26), .ref (md 27), .ref (md 28), .int 0, .int 0, .int 0, .int 0, .int 0, .int 0, .int 0, .int 0, .int 0, .int 0, .int 0, .ref (md 40), .ref (md 41), .int 0, .int 0, .ref (md 44), .int 0, .int 0, .ref (md 47), .ref (md 48), .int 0, .ref (md 50), .ref (md 51), .ref (md 52), .ref (md 53), .ref (md 54), .int 0, .int 0, .ref (md 57), .ref (md 58)])), (md 40, .inl (cyI, 520, .inl g))] H := hP
  have hD : va_D A [(h1, .inr (7, [.ref (md 0), .ref (md 1), .int 0, .int 0, .int 0, .int (-1), .int 0, .int 0, .int 0, .int 0, .long 0, .ref (md 11), .ref (md 12), .ref (md 13), .ref (md 14), .ref (md 15), .ref (md 16), .ref (md 17), .ref (md 18), .ref (md 19), .ref (md 20), .ref (md 21), .ref (md 22), .ref (md 23), .ref (md 24), .ref (md 25), .ref (md 26), .ref (md 27), .ref (md 28), .int 0, .int 0, .int 0, .int 0, .int 0, .int 0, .int 0, .int 0, .int 0, .int 0, .int 0, .ref (md 40), .ref (md 41), .int 0, .int 0, .ref (md 44), .int 0, .int 0, .ref (md 47), .ref (md 48), .int 0, .ref (md 50), .ref (md 51), .ref (md 52), .ref (md 53), .ref (md 54), .int 0, .int 0, .ref (md 57), .ref (md 58)])), (md 40, .inl (cyI, 520, .inl g))] := hD
  refine tp_c (w := 0) qu2692 ?_
  refine lv_icmp_ge (tgt := 36) hx hb dX7_traffic_11 (by decide) (fun _ => ?_) (fun c2693 => absurd (by decide) c2693)
  refine lv_iload_n hx hb dX7_traffic_36 rfl (lv_at hl 1 rfl) ?_
  exact W.iret (v := 0) hx hb hr (fun t ht hW => ⟨⟨0, (), rfl, rfl, cE.nil⟩, hS.F ht⟩) hS.2.2 dX7_traffic_37
def wo_c_M_lag : List Cond := [.methodLink RX7 407 yX7_isMember, .instanceMethod yX7_isMember, .selects RX7 yX7_isMember yX7_isMember, .initialized RX7]
def wq_c_M_lag : List Cond := .code yX7_lag cX7_lag 2 (some .int) :: (wo_c_M_lag ++ (wq_k_X7_isMember ++ []))
theorem gd_c_M_lag : Gd wq_c_M_lag := gd_c (gd_a (gd_o (by decide +kernel)) (gd_a gd_k_X7_isMember gd_0))
abbrev wc_c_M_lag (cyB cyI cyJ cyZ cyO : ClassId) (h1 : Nat) (md : Nat → Nat) (x1 : Int32) : va_W := [(h1, .inr (7, [.ref (md 0), .ref (md 1), .int 0, .int 0, .int 0, .int (-1), .int 0, .int 0, .int 0, .int 0, .long 0, .ref (md 11), .ref (md 12), .ref (md 13), .ref (md 14), .ref (md 15), .ref (md 16), .ref (md 17), .ref (md 18), .ref (md 19), .ref (md 20), .ref (md 21), .ref (md 22), .ref (md 23), .ref (md 24), .ref (md 25), .ref (md 26), .ref (md 27), .ref (md 28), .int 0, .int 0, .int 0, .int 0, .int 0, .int 0, .int 0, .int 0, .int 0, .int 0, .int 0, .ref (md 40), .ref (md 41), .int 0, .int 0, .ref (md 44), .int 0, .int 0, .ref (md 47), .ref (md 48), .int 0, .ref (md 50), .ref (md 51), .ref (md 52), .ref (md 53), .ref (md 54), .int 0, .int 0, .ref (md 57), .ref (md 58)])), (md 11, .inl (cyI, 2, .inl (fun _ => 0)))]
set_option maxHeartbeats 4000000 in
set_option maxRecDepth 100000 in
theorem c_M_lag (l : Launch) (dC : Nat → ClassId) (dI : Nat → Nat → Nat) (cyB cyI cyJ cyZ cyO : ClassId) (h1 : Nat) (md : Nat → Nat) (x1 : Int32) (sz : Nat) : Met l yX7_lag wq_c_M_lag ({ frames := 3, cells := 0, slots := 0, locals := 64 }) (va_Pc [.ref h1, .int x1] (cB (dC, dI) (kT cyB cyI cyJ cyZ cyO) (wc_c_M_lag cyB cyI cyJ cyZ cyO h1 md x1) sz)) (va_Qi (fun (r : Int32) (_ : Unit) => r = -1) (fun (u : Unit) t => cE (dC, dI) (va_A (wc_c_M_lag cyB cyI cyJ cyZ cyO h1 md x1) sz) ([]) t.heap) (va_A (wc_c_M_lag cyB cyI cyJ cyZ cyO h1 md x1) sz)) 0 0 (va_A (wc_c_M_lag cyB cyI cyJ cyZ cyO h1 md x1) sz) := by
  refine Met.ofW (cc := cX7_lag) (maxL := 2) (ret := (some .int)) (by decide) rfl ?_
  intro p e s m args below meth c s₁ B hml hv
  obtain ⟨rfl, hsz, hP, hKN, hD0⟩ := hv
  have hx := B.exec
  have hb := B.bytes
  have hr := B.returns
  have hts := atoms_spec (ws := wq_c_M_lag) B.pre
  have hown : s.vm.findClass RX7 = some m.cls := findClass_of_methodNamed B.named
  have hlocks := B.notSynchronized
  have hK := hKN.1
  have hfix : CallFix p m c cX7_lag 2 s [.ref h1, .int x1].toArray wq_c_M_lag RX7 := ⟨hx, hb, hml, hown, hts⟩
  subst hsz
  have hD := hD0.self (sz := s.heap.size)
  generalize hAe : va_A (wc_c_M_lag cyB cyI cyJ cyZ cyO h1 md x1) s.heap.size = A at hD ⊢
  have hA : ∀ q : Nat, s.heap.size ≤ q → A q := fun q h => by rw [← hAe]; exact Or.inr h
  have hS : va_S A s.heap s.heap [] := va_S.rf
  have hl := lv_entry ([.ref h1, .int x1]) (n := 2) (Nat.le_of_ble_eq_true rfl)
  rw [lg_entry_eq]
  generalize (lg_sl ([.ref h1, .int x1]) ++ List.replicate (2 - (lg_sl ([.ref h1, .int x1])).length) Slot.unset).toArray = ls at hl ⊢
  have hl : lv_has ls 2 [(0, .ref h1), (1, .int x1)] := hl
  refine lv_aload_n hx hb dX7_lag_0 rfl (lv_at hl 0 rfl) ?_
  refine lv_iload_n hx hb dX7_lag_1 rfl (lv_at hl 1 rfl) ?_
  refine gf_i (wr := []) (va_runV (As := [.int x1]) (rest := []) hfix (k_X7_isMember l dC dI cyB cyI cyJ cyZ cyO h1 md x1 _) (cwV 1 hts (gi_V (ow_m (k := 0) rfl) (ow_m (k := 1) rfl) (ow_m (k := 2) rfl) (ow_m (k := 3) rfl) (sb_c sb_l) gd_k_X7_isMember) rfl rfl rfl (by decide +kernel) ⟨Nat.le_of_ble_eq_true rfl, Nat.le_of_ble_eq_true rfl⟩) (g_preV hKN hP hD [0, 1] rfl (by decide) 0 7 rfl rfl) rfl rfl hl.1 rfl (lv_room (Nat.le_of_ble_eq_true rfl)) dX7_lag_2 ⟨Nat.le_of_ble_eq_true rfl, Nat.le_of_ble_eq_true rfl⟩) hP hD hS hA [0, 1] [] rfl rfl (by decide) (by decide) (fun r2729 u2730 H locs qu2730 hP hD hS => ?_)
  have hP : va_P (dC, dI) vwCl [(h1, .inr (7, [.ref (md 0), .ref (md 1), .int 0, .int 0, .int 0, .int (-1), .int 0, .int 0, .int 0, .int 0, .long 0, .ref (md 11), .ref (md 12), .ref (md 13), .ref (md 14), .ref (md 15), .ref (md 16), .ref (md 17), .ref (md 18), .ref (md 19), .ref (md 20), .ref (md 21), .ref (md 22), .ref (md 23), .ref (md 24), .ref (md 25), .ref (md 26), .ref (md 27), .ref (md 28), .int 0, .int 0, .int 0, .int 0, .int 0, .int 0, .int 0, .int 0, .int 0, .int 0, .int 0, .ref (md 40), .ref (md 41), .int 0, .int 0, .ref (md 44), .int 0, .int 0, .ref (md 47), .ref (md 48), .int 0, .ref (md 50), .ref (md 51), .ref (md 52), .ref (md 53), .ref (md 54), .int 0, .int 0, .ref (md 57), .ref (md 58)])), (md 11, .inl (cyI, 2, .inl (fun _ => 0)))] H := hP
  have hD : va_D A [(h1, .inr (7, [.ref (md 0), .ref (md 1), .int 0, .int 0, .int 0, .int (-1), .int 0, .int 0, .int 0, .int 0, .long 0, .ref (md 11), .ref (md 12), .ref (md 13), .ref (md 14), .ref (md 15), .ref (md 16), .ref (md 17), .ref (md 18), .ref (md 19), .ref (md 20), .ref (md 21), .ref (md 22), .ref (md 23), .ref (md 24), .ref (md 25), .ref (md 26), .ref (md 27), .ref (md 28), .int 0, .int 0, .int 0, .int 0, .int 0, .int 0, .int 0, .int 0, .int 0, .int 0, .int 0, .ref (md 40), .ref (md 41), .int 0, .int 0, .ref (md 44), .int 0, .int 0, .ref (md 47), .ref (md 48), .int 0, .ref (md 50), .ref (md 51), .ref (md 52), .ref (md 53), .ref (md 54), .int 0, .int 0, .ref (md 57), .ref (md 58)])), (md 11, .inl (cyI, 2, .inl (fun _ => 0)))] := hD
  rcases qu2730 with ⟨rfl, b2731⟩ | ⟨rfl, b2732, b2733⟩
  · skip
    refine lv_if_eq (tgt := 26) hx hb dX7_lag_5 (by decide) (fun _ => ?_) (fun c2734 => absurd (by decide) c2734)
    refine lv_iconst (v := (-1)) hx hb dX7_lag_26 (by decide) ?_
    exact W.iret (v := (-1)) hx hb hr (fun t ht hW => ⟨⟨(-1), (), rfl, rfl, cE.nil⟩, hS.F ht⟩) hS.2.2 dX7_lag_27
  · skip
    refine lv_if_eq (tgt := 26) hx hb dX7_lag_5 (by decide) (fun _ => ?_) (fun c2735 => absurd (by decide) c2735)
    refine lv_iconst (v := (-1)) hx hb dX7_lag_26 (by decide) ?_
    exact W.iret (v := (-1)) hx hb hr (fun t ht hW => ⟨⟨(-1), (), rfl, rfl, cE.nil⟩, hS.F ht⟩) hS.2.2 dX7_lag_27
def wo_c_M_peak : List Cond := [.methodLink RX7 316 yX7_isIn, .static yX7_isIn, .initialized RX7, .methodLink RX7 313 yX7_lots, .instanceMethod yX7_lots, .selects RX7 yX7_lots yX7_lots]
def wq_c_M_peak : List Cond := .code yX7_peak cX7_peak 5 (some .int) :: (wo_c_M_peak ++ (wq_k_X7_isIn_v4 ++ (wq_k_X7_lots_v5 ++ [])))
theorem gd_c_M_peak : Gd wq_c_M_peak := gd_c (gd_a (gd_o (by decide +kernel)) (gd_a gd_k_X7_isIn_v4 (gd_a gd_k_X7_lots_v5 gd_0)))
abbrev wc_c_M_peak (cyB cyI cyJ cyZ cyO : ClassId) (h1 : Nat) (md : Nat → Nat) (g : Nat → Int32) (x1 : Int32) : va_W := [(h1, .inr (7, [.ref (md 0), .ref (md 1), .int 0, .int 0, .int 0, .int (-1), .int 0, .int 0, .int 0, .int 0, .long 0, .ref (md 11), .ref (md 12), .ref (md 13), .ref (md 14), .ref (md 15), .ref (md 16), .ref (md 17), .ref (md 18), .ref (md 19), .ref (md 20), .ref (md 21), .ref (md 22), .ref (md 23), .ref (md 24), .ref (md 25), .ref (md 26), .ref (md 27), .ref (md 28), .int 0, .int 0, .int 0, .int 0, .int 0, .int 0, .int 0, .int 0, .int 0, .int 0, .int 0, .ref (md 40), .ref (md 41), .int 0, .int 0, .ref (md 44), .int 0, .int 0, .ref (md 47), .ref (md 48), .int 0, .ref (md 50), .ref (md 51), .ref (md 52), .ref (md 53), .ref (md 54), .int 0, .int 0, .ref (md 57), .ref (md 58)])), (md 40, .inl (cyI, 520, .inl g))]
set_option maxHeartbeats 4000000 in
set_option maxRecDepth 100000 in
theorem c_M_peak (l : Launch) (dC : Nat → ClassId) (dI : Nat → Nat → Nat) (cyB cyI cyJ cyZ cyO : ClassId) (h1 : Nat) (md : Nat → Nat) (g : Nat → Int32) (x1 : Int32) (sz : Nat) (hg : AllZ g) : Met l yX7_peak wq_c_M_peak ({ frames := 1, cells := 0, slots := 0, locals := 22 }) (va_Pc [.ref h1, .int x1] (cB (dC, dI) (kT cyB cyI cyJ cyZ cyO) (wc_c_M_peak cyB cyI cyJ cyZ cyO h1 md g x1) sz)) (va_Qi (fun (r : Int32) (_ : Unit) => r = -1) (fun (u : Unit) t => cE (dC, dI) (va_A (wc_c_M_peak cyB cyI cyJ cyZ cyO h1 md g x1) sz) ([]) t.heap) (va_A (wc_c_M_peak cyB cyI cyJ cyZ cyO h1 md g x1) sz)) 0 0 (va_A (wc_c_M_peak cyB cyI cyJ cyZ cyO h1 md g x1) sz) := by
  refine Met.ofW (cc := cX7_peak) (maxL := 5) (ret := (some .int)) (by decide) rfl ?_
  intro p e s m args below meth c s₁ B hml hv
  obtain ⟨rfl, hsz, hP, hKN, hD0⟩ := hv
  have hx := B.exec
  have hb := B.bytes
  have hr := B.returns
  have hts := atoms_spec (ws := wq_c_M_peak) B.pre
  have hown : s.vm.findClass RX7 = some m.cls := findClass_of_methodNamed B.named
  have hlocks := B.notSynchronized
  have hK := hKN.1
  have hfix : CallFix p m c cX7_peak 5 s [.ref h1, .int x1].toArray wq_c_M_peak RX7 := ⟨hx, hb, hml, hown, hts⟩
  subst hsz
  have hD := hD0.self (sz := s.heap.size)
  generalize hAe : va_A (wc_c_M_peak cyB cyI cyJ cyZ cyO h1 md g x1) s.heap.size = A at hD ⊢
  have hA : ∀ q : Nat, s.heap.size ≤ q → A q := fun q h => by rw [← hAe]; exact Or.inr h
  have hS : va_S A s.heap s.heap [] := va_S.rf
  have hl := lv_entry ([.ref h1, .int x1]) (n := 5) (Nat.le_of_ble_eq_true rfl)
  rw [lg_entry_eq]
  generalize (lg_sl ([.ref h1, .int x1]) ++ List.replicate (5 - (lg_sl ([.ref h1, .int x1])).length) Slot.unset).toArray = ls at hl ⊢
  have hl : lv_has ls 5 [(0, .ref h1), (1, .int x1)] := hl
  refine lv_iload_n hx hb dX7_peak_0 rfl (lv_at hl 1 rfl) ?_
  refine lv_iconst (v := 0) hx hb dX7_peak_1 (by decide) ?_
  refine lv_iconst (v := 1) hx hb dX7_peak_2 (by decide) ?_
  refine gf_i (wr := [(h1, .inr (7, [.ref (md 0), .ref (md 1), .int 0, .int 0, .int 0, .int (-1), .int 0, .int 0, .int 0, .int 0, .long 0, .ref (md 11), .ref (md 12), .ref (md 13), .ref (md 14), .ref (md 15), .ref (md 16), .ref (md 17), .ref (md 18), .ref (md 19), .ref (md 20), .ref (md 21), .ref (md 22), .ref (md 23), .ref (md 24), .ref (md 25), .ref (md 26), .ref (md 27), .ref (md 28), .int 0, .int 0, .int 0, .int 0, .int 0, .int 0, .int 0, .int 0, .int 0, .int 0, .int 0, .ref (md 40), .ref (md 41), .int 0, .int 0, .ref (md 44), .int 0, .int 0, .ref (md 47), .ref (md 48), .int 0, .ref (md 50), .ref (md 51), .ref (md 52), .ref (md 53), .ref (md 54), .int 0, .int 0, .ref (md 57), .ref (md 58)])), (md 40, .inl (cyI, 520, .inl g))]) (va_runS (As := [.int x1, .int 0, .int 1]) (rest := []) hfix (k_X7_isIn_v4 l dC dI cyB cyI cyJ cyZ cyO x1 _) (va_cwS 3 hts (gi_S (ow_m (k := 0) rfl) (ow_m (k := 1) rfl) (ow_m (k := 2) rfl) (sb_c sb_l) gd_k_X7_isIn_v4) rfl rfl rfl (by decide +kernel) ⟨Nat.le_of_ble_eq_true rfl, Nat.le_of_ble_eq_true rfl⟩) (g_preS hKN hP hD [] rfl (by decide)) rfl rfl hl.1 rfl (lv_room (Nat.le_of_ble_eq_true rfl)) dX7_peak_3 ⟨Nat.le_of_ble_eq_true rfl, Nat.le_of_ble_eq_true rfl⟩) hP hD hS hA [] [0, 1] rfl rfl (by decide) (by decide) (fun r2753 u2754 H locs qu2754 hP hD hS => ?_)
  have hP : va_P (dC, dI) vwCl [(h1, .inr (7, [.ref (md 0), .ref (md 1), .int 0, .int 0, .int 0, .int (-1), .int 0, .int 0, .int 0, .int 0, .long 0, .ref (md 11), .ref (md 12), .ref (md 13), .ref (md 14), .ref (md 15), .ref (md 16), .ref (md 17), .ref (md 18), .ref (md 19), .ref (md 20), .ref (md 21), .ref (md 22), .ref (md 23), .ref (md 24), .ref (md 25), .ref (md 26), .ref (md 27), .ref (md 28), .int 0, .int 0, .int 0, .int 0, .int 0, .int 0, .int 0, .int 0, .int 0, .int 0, .int 0, .ref (md 40), .ref (md 41), .int 0, .int 0, .ref (md 44), .int 0, .int 0, .ref (md 47), .ref (md 48), .int 0, .ref (md 50), .ref (md 51), .ref (md 52), .ref (md 53), .ref (md 54), .int 0, .int 0, .ref (md 57), .ref (md 58)])), (md 40, .inl (cyI, 520, .inl g))] H := hP
  have hD : va_D A [(h1, .inr (7, [.ref (md 0), .ref (md 1), .int 0, .int 0, .int 0, .int (-1), .int 0, .int 0, .int 0, .int 0, .long 0, .ref (md 11), .ref (md 12), .ref (md 13), .ref (md 14), .ref (md 15), .ref (md 16), .ref (md 17), .ref (md 18), .ref (md 19), .ref (md 20), .ref (md 21), .ref (md 22), .ref (md 23), .ref (md 24), .ref (md 25), .ref (md 26), .ref (md 27), .ref (md 28), .int 0, .int 0, .int 0, .int 0, .int 0, .int 0, .int 0, .int 0, .int 0, .int 0, .int 0, .ref (md 40), .ref (md 41), .int 0, .int 0, .ref (md 44), .int 0, .int 0, .ref (md 47), .ref (md 48), .int 0, .ref (md 50), .ref (md 51), .ref (md 52), .ref (md 53), .ref (md 54), .int 0, .int 0, .ref (md 57), .ref (md 58)])), (md 40, .inl (cyI, 520, .inl g))] := hD
  rcases qu2754 with ⟨rfl, b2755⟩ | ⟨rfl, b2756, b2757⟩ | ⟨rfl, b2758, b2759⟩
  · skip
    refine lv_if_eq (tgt := 16) hx hb dX7_peak_6 (by decide) (fun _ => ?_) (fun c2760 => absurd (by decide) c2760)
    refine lv_iconst (v := (-1)) hx hb dX7_peak_16 (by decide) ?_
    exact W.iret (v := (-1)) hx hb hr (fun t ht hW => ⟨⟨(-1), (), rfl, rfl, cE.nil⟩, hS.F ht⟩) hS.2.2 dX7_peak_17
  · skip
    refine lv_if_eq (tgt := 16) hx hb dX7_peak_6 (by decide) (fun _ => ?_) (fun c2761 => absurd (by decide) c2761)
    refine lv_iconst (v := (-1)) hx hb dX7_peak_16 (by decide) ?_
    exact W.iret (v := (-1)) hx hb hr (fun t ht hW => ⟨⟨(-1), (), rfl, rfl, cE.nil⟩, hS.F ht⟩) hS.2.2 dX7_peak_17
  · skip
    refine lv_if_eq (tgt := 16) hx hb dX7_peak_6 (by decide) (fun c2762 => absurd c2762 (by decide)) (fun _ => ?_)
    refine lv_aload_n hx hb dX7_peak_9 rfl (lv_at hl 0 rfl) ?_
    refine gf_i (wr := []) (va_runV (As := []) (rest := []) hfix (k_X7_lots_v5 l dC dI cyB cyI cyJ cyZ cyO h1 md g _ hg) (cwV 0 hts (gi_V (ow_m (k := 3) rfl) (ow_m (k := 4) rfl) (ow_m (k := 5) rfl) (ow_m (k := 2) rfl) (sb_c (sb_r sb_l)) gd_k_X7_lots_v5) rfl rfl rfl (by decide +kernel) ⟨Nat.le_of_ble_eq_true rfl, Nat.le_of_ble_eq_true rfl⟩) (g_preV hKN hP hD [0, 1] rfl (by decide) 0 7 rfl rfl) rfl rfl hl.1 rfl (lv_room (Nat.le_of_ble_eq_true rfl)) dX7_peak_10 ⟨Nat.le_of_ble_eq_true rfl, Nat.le_of_ble_eq_true rfl⟩) hP hD hS hA [0, 1] [] rfl rfl (by decide) (by decide) (fun r2763 u2764 H locs qu2764 hP hD hS => ?_)
    have hP : va_P (dC, dI) vwCl [(h1, .inr (7, [.ref (md 0), .ref (md 1), .int 0, .int 0, .int 0, .int (-1), .int 0, .int 0, .int 0, .int 0, .long 0, .ref (md 11), .ref (md 12), .ref (md 13), .ref (md 14), .ref (md 15), .ref (md 16), .ref (md 17), .ref (md 18), .ref (md 19), .ref (md 20), .ref (md 21), .ref (md 22), .ref (md 23), .ref (md 24), .ref (md 25), .ref (md 26), .ref (md 27), .ref (md 28), .int 0, .int 0, .int 0, .int 0, .int 0, .int 0, .int 0, .int 0, .int 0, .int 0, .int 0, .ref (md 40), .ref (md 41), .int 0, .int 0, .ref (md 44), .int 0, .int 0, .ref (md 47), .ref (md 48), .int 0, .ref (md 50), .ref (md 51), .ref (md 52), .ref (md 53), .ref (md 54), .int 0, .int 0, .ref (md 57), .ref (md 58)])), (md 40, .inl (cyI, 520, .inl g))] H := hP
    have hD : va_D A [(h1, .inr (7, [.ref (md 0), .ref (md 1), .int 0, .int 0, .int 0, .int (-1), .int 0, .int 0, .int 0, .int 0, .long 0, .ref (md 11), .ref (md 12), .ref (md 13), .ref (md 14), .ref (md 15), .ref (md 16), .ref (md 17), .ref (md 18), .ref (md 19), .ref (md 20), .ref (md 21), .ref (md 22), .ref (md 23), .ref (md 24), .ref (md 25), .ref (md 26), .ref (md 27), .ref (md 28), .int 0, .int 0, .int 0, .int 0, .int 0, .int 0, .int 0, .int 0, .int 0, .int 0, .int 0, .ref (md 40), .ref (md 41), .int 0, .int 0, .ref (md 44), .int 0, .int 0, .ref (md 47), .ref (md 48), .int 0, .ref (md 50), .ref (md 51), .ref (md 52), .ref (md 53), .ref (md 54), .int 0, .int 0, .ref (md 57), .ref (md 58)])), (md 40, .inl (cyI, 520, .inl g))] := hD
    refine tp_c (w := 0) qu2764 ?_
    refine lv_if_ne (tgt := 18) hx hb dX7_peak_13 (by decide) (fun c2765 => absurd (by decide) c2765) (fun _ => ?_)
    refine lv_iconst (v := (-1)) hx hb dX7_peak_16 (by decide) ?_
    exact W.iret (v := (-1)) hx hb hr (fun t ht hW => ⟨⟨(-1), (), rfl, rfl, cE.nil⟩, hS.F ht⟩) hS.2.2 dX7_peak_17
def wo_k_X7_isIn_v6 : List Cond := []
def wq_k_X7_isIn_v6 : List Cond := .code yX7_isIn cX7_isIn 3 (some .boolean) :: (wo_k_X7_isIn_v6 ++ [])
theorem gd_k_X7_isIn_v6 : Gd wq_k_X7_isIn_v6 := gd_c (gd_a (gd_o (by decide +kernel)) gd_0)
abbrev wc_k_X7_isIn_v6 (cyB cyI cyJ cyZ cyO : ClassId) (a0 : Int32) : va_W := []
set_option maxHeartbeats 4000000 in
set_option maxRecDepth 100000 in
theorem k_X7_isIn_v6 (l : Launch) (dC : Nat → ClassId) (dI : Nat → Nat → Nat) (cyB cyI cyJ cyZ cyO : ClassId) (a0 : Int32) (sz : Nat) : Met l yX7_isIn wq_k_X7_isIn_v6 ({ frames := 0, cells := 0, slots := 0, locals := 0 }) (va_Pc [.int a0, .int 0, .int 2] (cB (dC, dI) (kT cyB cyI cyJ cyZ cyO) (wc_k_X7_isIn_v6 cyB cyI cyJ cyZ cyO a0) sz)) (va_Qi (fun (r : Int32) _ => (r = 0 ∧ a0.toInt < 0) ∨ (r = 0 ∧ 0 ≤ a0.toInt ∧ 2 < a0.toInt) ∨ (r = 1 ∧ 0 ≤ a0.toInt ∧ a0.toInt ≤ 2)) (fun (u : Unit) t => cE (dC, dI) (va_A (wc_k_X7_isIn_v6 cyB cyI cyJ cyZ cyO a0) sz) ([]) t.heap) (va_A (wc_k_X7_isIn_v6 cyB cyI cyJ cyZ cyO a0) sz)) 0 0 (va_A (wc_k_X7_isIn_v6 cyB cyI cyJ cyZ cyO a0) sz) := by
  refine Met.ofW (cc := cX7_isIn) (maxL := 3) (ret := (some .boolean)) (by decide) rfl ?_
  intro p e s m args below meth c s₁ B hml hv
  obtain ⟨rfl, hsz, hP, hKN, hD0⟩ := hv
  have hx := B.exec
  have hb := B.bytes
  have hr := B.returns
  have hts := atoms_spec (ws := wq_k_X7_isIn_v6) B.pre
  have hown : s.vm.findClass RX7 = some m.cls := findClass_of_methodNamed B.named
  have hlocks := B.notSynchronized
  have hK := hKN.1
  have hfix : CallFix p m c cX7_isIn 3 s [.int a0, .int 0, .int 2].toArray wq_k_X7_isIn_v6 RX7 := ⟨hx, hb, hml, hown, hts⟩
  subst hsz
  have hD := hD0.self (sz := s.heap.size)
  generalize hAe : va_A (wc_k_X7_isIn_v6 cyB cyI cyJ cyZ cyO a0) s.heap.size = A at hD ⊢
  have hA : ∀ q : Nat, s.heap.size ≤ q → A q := fun q h => by rw [← hAe]; exact Or.inr h
  have hS : va_S A s.heap s.heap [] := va_S.rf
  have hl := lv_entry ([.int a0, .int 0, .int 2]) (n := 3) (Nat.le_of_ble_eq_true rfl)
  rw [lg_entry_eq]
  generalize (lg_sl ([.int a0, .int 0, .int 2]) ++ List.replicate (3 - (lg_sl ([.int a0, .int 0, .int 2])).length) Slot.unset).toArray = ls at hl ⊢
  have hl : lv_has ls 3 [(0, .int a0), (1, .int 0), (2, .int 2)] := hl
  refine lv_iload_n hx hb dX7_isIn_0 rfl (lv_at hl 0 rfl) ?_
  refine lv_iload_n hx hb dX7_isIn_1 rfl (lv_at hl 1 rfl) ?_
  refine lv_icmp_lt (tgt := 14) hx hb dX7_isIn_2 (by decide) (fun c2768 => ?_) (fun c2768 => ?_)
  · have c2768 := i_lt (a := a0.toInt) (b := 0) c2768 rfl (by decide)
    refine lv_iconst (v := 0) hx hb dX7_isIn_14 (by decide) ?_
    exact W.zret (v := 0) hx hb hr (by decide) (fun t ht hW => ⟨⟨0, (), rfl, (Or.inl ⟨rfl, c2768⟩), cE.of ht hP hD [] (by decide) rfl⟩, hS.F ht⟩) hS.2.2 dX7_isIn_15
  · have c2768 := i_nlt (a := a0.toInt) (b := 0) c2768 rfl (by decide)
    refine lv_iload_n hx hb dX7_isIn_5 rfl (lv_at hl 0 rfl) ?_
    refine lv_iload_n hx hb dX7_isIn_6 rfl (lv_at hl 2 rfl) ?_
    refine lv_icmp_gt (tgt := 14) hx hb dX7_isIn_7 (by decide) (fun c2769 => ?_) (fun c2769 => ?_)
    · have c2769 := i_lt (a := 2) (b := a0.toInt) c2769 (by decide) rfl
      refine lv_iconst (v := 0) hx hb dX7_isIn_14 (by decide) ?_
      exact W.zret (v := 0) hx hb hr (by decide) (fun t ht hW => ⟨⟨0, (), rfl, (Or.inr (Or.inl ⟨rfl, c2768, c2769⟩)), cE.of ht hP hD [] (by decide) rfl⟩, hS.F ht⟩) hS.2.2 dX7_isIn_15
    · have c2769 := i_nlt (a := 2) (b := a0.toInt) c2769 (by decide) rfl
      refine lv_iconst (v := 1) hx hb dX7_isIn_10 (by decide) ?_
      refine lv_goto (tgt := 15) hx hb dX7_isIn_11 (by decide) ?_
      exact W.zret (v := 1) hx hb hr (by decide) (fun t ht hW => ⟨⟨1, (), rfl, (Or.inr (Or.inr ⟨rfl, c2768, c2769⟩)), cE.of ht hP hD [] (by decide) rfl⟩, hS.F ht⟩) hS.2.2 dX7_isIn_15
def wo_c_M_dirtiest : List Cond := [.methodLink RX7 316 yX7_isIn, .static yX7_isIn, .initialized RX7, .methodLink RX7 313 yX7_lots, .instanceMethod yX7_lots, .selects RX7 yX7_lots yX7_lots, .fieldLink RX7 27 "ReplicaChainModel" "keys" "[I", .fieldLink RX7 214 "ReplicaChainModel" "bank" "I"]
def wq_c_M_dirtiest : List Cond := .code yX7_dirtiest cX7_dirtiest 6 (some .int) :: (wo_c_M_dirtiest ++ (wq_k_X7_isIn_v6 ++ (wq_k_X7_lots_v5 ++ (wsX70 ++ []))))
theorem gd_c_M_dirtiest : Gd wq_c_M_dirtiest := gd_c (gd_a (gd_o (by decide +kernel)) (gd_a gd_k_X7_isIn_v6 (gd_a gd_k_X7_lots_v5 (gd_a gd_u gd_0))))
abbrev wc_c_M_dirtiest (cyB cyI cyJ cyZ cyO : ClassId) (h1 : Nat) (md : Nat → Nat) (g : Nat → Int32) (x1 : Int32) : va_W := [(h1, .inr (7, [.ref (md 0), .ref (md 1), .int 0, .int 0, .int 0, .int (-1), .int 0, .int 0, .int 0, .int 0, .long 0, .ref (md 11), .ref (md 12), .ref (md 13), .ref (md 14), .ref (md 15), .ref (md 16), .ref (md 17), .ref (md 18), .ref (md 19), .ref (md 20), .ref (md 21), .ref (md 22), .ref (md 23), .ref (md 24), .ref (md 25), .ref (md 26), .ref (md 27), .ref (md 28), .int 0, .int 0, .int 0, .int 0, .int 0, .int 0, .int 0, .int 0, .int 0, .int 0, .int 0, .ref (md 40), .ref (md 41), .int 0, .int 0, .ref (md 44), .int 0, .int 0, .ref (md 47), .ref (md 48), .int 0, .ref (md 50), .ref (md 51), .ref (md 52), .ref (md 53), .ref (md 54), .int 0, .int 0, .ref (md 57), .ref (md 58)])), (md 13, .inl (cyI, 2, .inl (fun _ => 0))), (md 40, .inl (cyI, 520, .inl g))]
set_option maxHeartbeats 4000000 in
set_option maxRecDepth 100000 in
theorem c_M_dirtiest (l : Launch) (dC : Nat → ClassId) (dI : Nat → Nat → Nat) (cyB cyI cyJ cyZ cyO : ClassId) (h1 : Nat) (md : Nat → Nat) (g : Nat → Int32) (x1 : Int32) (sz : Nat) (hg : AllZ g) : Met l yX7_dirtiest wq_c_M_dirtiest ({ frames := 1, cells := 0, slots := 0, locals := 22 }) (va_Pc [.ref h1, .int x1] (cB (dC, dI) (kT cyB cyI cyJ cyZ cyO) (wc_c_M_dirtiest cyB cyI cyJ cyZ cyO h1 md g x1) sz)) (va_Qi (fun (r : Int32) (_ : Unit) => r = -1) (fun (u : Unit) t => cE (dC, dI) (va_A (wc_c_M_dirtiest cyB cyI cyJ cyZ cyO h1 md g x1) sz) ([]) t.heap) (va_A (wc_c_M_dirtiest cyB cyI cyJ cyZ cyO h1 md g x1) sz)) 0 0 (va_A (wc_c_M_dirtiest cyB cyI cyJ cyZ cyO h1 md g x1) sz) := by
  refine Met.ofW (cc := cX7_dirtiest) (maxL := 6) (ret := (some .int)) (by decide) rfl ?_
  intro p e s m args below meth c s₁ B hml hv
  obtain ⟨rfl, hsz, hP, hKN, hD0⟩ := hv
  have hx := B.exec
  have hb := B.bytes
  have hr := B.returns
  have hts := atoms_spec (ws := wq_c_M_dirtiest) B.pre
  have hown : s.vm.findClass RX7 = some m.cls := findClass_of_methodNamed B.named
  have hlocks := B.notSynchronized
  have hK := hKN.1
  have hfix : CallFix p m c cX7_dirtiest 6 s [.ref h1, .int x1].toArray wq_c_M_dirtiest RX7 := ⟨hx, hb, hml, hown, hts⟩
  have hi7 : ∀ w ∈ wsX70, w ∈ wq_c_M_dirtiest := (sb_c (sb_r (sb_r sb_l)))
  subst hsz
  have hD := hD0.self (sz := s.heap.size)
  generalize hAe : va_A (wc_c_M_dirtiest cyB cyI cyJ cyZ cyO h1 md g x1) s.heap.size = A at hD ⊢
  have hA : ∀ q : Nat, s.heap.size ≤ q → A q := fun q h => by rw [← hAe]; exact Or.inr h
  have hS : va_S A s.heap s.heap [] := va_S.rf
  have hl := lv_entry ([.ref h1, .int x1]) (n := 6) (Nat.le_of_ble_eq_true rfl)
  rw [lg_entry_eq]
  generalize (lg_sl ([.ref h1, .int x1]) ++ List.replicate (6 - (lg_sl ([.ref h1, .int x1])).length) Slot.unset).toArray = ls at hl ⊢
  have hl : lv_has ls 6 [(0, .ref h1), (1, .int x1)] := hl
  refine lv_iload_n hx hb dX7_dirtiest_0 rfl (lv_at hl 1 rfl) ?_
  refine lv_iconst (v := 0) hx hb dX7_dirtiest_1 (by decide) ?_
  refine lv_iconst (v := 2) hx hb dX7_dirtiest_2 (by decide) ?_
  refine gf_i (wr := [(h1, .inr (7, [.ref (md 0), .ref (md 1), .int 0, .int 0, .int 0, .int (-1), .int 0, .int 0, .int 0, .int 0, .long 0, .ref (md 11), .ref (md 12), .ref (md 13), .ref (md 14), .ref (md 15), .ref (md 16), .ref (md 17), .ref (md 18), .ref (md 19), .ref (md 20), .ref (md 21), .ref (md 22), .ref (md 23), .ref (md 24), .ref (md 25), .ref (md 26), .ref (md 27), .ref (md 28), .int 0, .int 0, .int 0, .int 0, .int 0, .int 0, .int 0, .int 0, .int 0, .int 0, .int 0, .ref (md 40), .ref (md 41), .int 0, .int 0, .ref (md 44), .int 0, .int 0, .ref (md 47), .ref (md 48), .int 0, .ref (md 50), .ref (md 51), .ref (md 52), .ref (md 53), .ref (md 54), .int 0, .int 0, .ref (md 57), .ref (md 58)])), (md 13, .inl (cyI, 2, .inl (fun _ => 0))), (md 40, .inl (cyI, 520, .inl g))]) (va_runS (As := [.int x1, .int 0, .int 2]) (rest := []) hfix (k_X7_isIn_v6 l dC dI cyB cyI cyJ cyZ cyO x1 _) (va_cwS 3 hts (gi_S (ow_m (k := 0) rfl) (ow_m (k := 1) rfl) (ow_m (k := 2) rfl) (sb_c sb_l) gd_k_X7_isIn_v6) rfl rfl rfl (by decide +kernel) ⟨Nat.le_of_ble_eq_true rfl, Nat.le_of_ble_eq_true rfl⟩) (g_preS hKN hP hD [] rfl (by decide)) rfl rfl hl.1 rfl (lv_room (Nat.le_of_ble_eq_true rfl)) dX7_dirtiest_3 ⟨Nat.le_of_ble_eq_true rfl, Nat.le_of_ble_eq_true rfl⟩) hP hD hS hA [] [0, 1, 2] rfl rfl (by decide) (by decide) (fun r2786 u2787 H locs qu2787 hP hD hS => ?_)
  have hP : va_P (dC, dI) vwCl [(h1, .inr (7, [.ref (md 0), .ref (md 1), .int 0, .int 0, .int 0, .int (-1), .int 0, .int 0, .int 0, .int 0, .long 0, .ref (md 11), .ref (md 12), .ref (md 13), .ref (md 14), .ref (md 15), .ref (md 16), .ref (md 17), .ref (md 18), .ref (md 19), .ref (md 20), .ref (md 21), .ref (md 22), .ref (md 23), .ref (md 24), .ref (md 25), .ref (md 26), .ref (md 27), .ref (md 28), .int 0, .int 0, .int 0, .int 0, .int 0, .int 0, .int 0, .int 0, .int 0, .int 0, .int 0, .ref (md 40), .ref (md 41), .int 0, .int 0, .ref (md 44), .int 0, .int 0, .ref (md 47), .ref (md 48), .int 0, .ref (md 50), .ref (md 51), .ref (md 52), .ref (md 53), .ref (md 54), .int 0, .int 0, .ref (md 57), .ref (md 58)])), (md 13, .inl (cyI, 2, .inl (fun _ => 0))), (md 40, .inl (cyI, 520, .inl g))] H := hP
  have hD : va_D A [(h1, .inr (7, [.ref (md 0), .ref (md 1), .int 0, .int 0, .int 0, .int (-1), .int 0, .int 0, .int 0, .int 0, .long 0, .ref (md 11), .ref (md 12), .ref (md 13), .ref (md 14), .ref (md 15), .ref (md 16), .ref (md 17), .ref (md 18), .ref (md 19), .ref (md 20), .ref (md 21), .ref (md 22), .ref (md 23), .ref (md 24), .ref (md 25), .ref (md 26), .ref (md 27), .ref (md 28), .int 0, .int 0, .int 0, .int 0, .int 0, .int 0, .int 0, .int 0, .int 0, .int 0, .int 0, .ref (md 40), .ref (md 41), .int 0, .int 0, .ref (md 44), .int 0, .int 0, .ref (md 47), .ref (md 48), .int 0, .ref (md 50), .ref (md 51), .ref (md 52), .ref (md 53), .ref (md 54), .int 0, .int 0, .ref (md 57), .ref (md 58)])), (md 13, .inl (cyI, 2, .inl (fun _ => 0))), (md 40, .inl (cyI, 520, .inl g))] := hD
  rcases qu2787 with ⟨rfl, b2788⟩ | ⟨rfl, b2789, b2790⟩ | ⟨rfl, b2791, b2792⟩
  · skip
    refine lv_if_ne (tgt := 11) hx hb dX7_dirtiest_6 (by decide) (fun c2793 => absurd (by decide) c2793) (fun _ => ?_)
    refine lv_iconst (v := (-1)) hx hb dX7_dirtiest_9 (by decide) ?_
    exact W.iret (v := (-1)) hx hb hr (fun t ht hW => ⟨⟨(-1), (), rfl, rfl, cE.nil⟩, hS.F ht⟩) hS.2.2 dX7_dirtiest_10
  · skip
    refine lv_if_ne (tgt := 11) hx hb dX7_dirtiest_6 (by decide) (fun c2794 => absurd (by decide) c2794) (fun _ => ?_)
    refine lv_iconst (v := (-1)) hx hb dX7_dirtiest_9 (by decide) ?_
    exact W.iret (v := (-1)) hx hb hr (fun t ht hW => ⟨⟨(-1), (), rfl, rfl, cE.nil⟩, hS.F ht⟩) hS.2.2 dX7_dirtiest_10
  · skip
    refine lv_if_ne (tgt := 11) hx hb dX7_dirtiest_6 (by decide) (fun _ => ?_) (fun c2795 => absurd c2795 (by decide))
    refine lv_iconst (v := (-1)) hx hb dX7_dirtiest_11 (by decide) ?_
    refine lv_istore_n (lv' := [(2, .int (-1)), (0, .ref h1), (1, .int x1)]) hx hb dX7_dirtiest_12 rfl hl (by decide) rfl (fun ls hl => ?_)
    refine lv_iconst (v := 0) hx hb dX7_dirtiest_13 (by decide) ?_
    refine lv_istore_n (lv' := [(3, .int 0), (2, .int (-1)), (0, .ref h1), (1, .int x1)]) hx hb dX7_dirtiest_14 rfl hl (by decide) rfl (fun ls hl => ?_)
    refine lv_iconst (v := 0) hx hb dX7_dirtiest_15 (by decide) ?_
    refine lv_istore (lv' := [(4, .int 0), (3, .int 0), (2, .int (-1)), (0, .ref h1), (1, .int x1)]) hx hb dX7_dirtiest_16 hl (by decide) rfl (fun ls hl => ?_)
    refine lv_iload hx hb dX7_dirtiest_18 (lv_at hl 0 rfl) ?_
    refine lv_aload_n hx hb dX7_dirtiest_20 rfl (lv_at hl 3 rfl) ?_
    refine gf_i (wr := [(md 13, .inl (cyI, 2, .inl (fun _ => 0)))]) (va_runV (As := []) (rest := [.int 0]) hfix (k_X7_lots_v5 l dC dI cyB cyI cyJ cyZ cyO h1 md g _ hg) (cwV 0 hts (gi_V (ow_m (k := 3) rfl) (ow_m (k := 4) rfl) (ow_m (k := 5) rfl) (ow_m (k := 2) rfl) (sb_c (sb_r sb_l)) gd_k_X7_lots_v5) rfl rfl rfl (by decide +kernel) ⟨Nat.le_of_ble_eq_true rfl, Nat.le_of_ble_eq_true rfl⟩) (g_preV hKN hP hD [0, 2] rfl (by decide) 0 7 rfl rfl) rfl rfl hl.1 rfl (lv_room (Nat.le_of_ble_eq_true rfl)) dX7_dirtiest_21 ⟨Nat.le_of_ble_eq_true rfl, Nat.le_of_ble_eq_true rfl⟩) hP hD hS hA [0, 2] [1] rfl rfl (by decide) (by decide) (fun r2796 u2797 H locs qu2797 hP hD hS => ?_)
    have hP : va_P (dC, dI) vwCl [(md 13, .inl (cyI, 2, .inl (fun _ => 0))), (h1, .inr (7, [.ref (md 0), .ref (md 1), .int 0, .int 0, .int 0, .int (-1), .int 0, .int 0, .int 0, .int 0, .long 0, .ref (md 11), .ref (md 12), .ref (md 13), .ref (md 14), .ref (md 15), .ref (md 16), .ref (md 17), .ref (md 18), .ref (md 19), .ref (md 20), .ref (md 21), .ref (md 22), .ref (md 23), .ref (md 24), .ref (md 25), .ref (md 26), .ref (md 27), .ref (md 28), .int 0, .int 0, .int 0, .int 0, .int 0, .int 0, .int 0, .int 0, .int 0, .int 0, .int 0, .ref (md 40), .ref (md 41), .int 0, .int 0, .ref (md 44), .int 0, .int 0, .ref (md 47), .ref (md 48), .int 0, .ref (md 50), .ref (md 51), .ref (md 52), .ref (md 53), .ref (md 54), .int 0, .int 0, .ref (md 57), .ref (md 58)])), (md 40, .inl (cyI, 520, .inl g))] H := hP
    have hD : va_D A [(md 13, .inl (cyI, 2, .inl (fun _ => 0))), (h1, .inr (7, [.ref (md 0), .ref (md 1), .int 0, .int 0, .int 0, .int (-1), .int 0, .int 0, .int 0, .int 0, .long 0, .ref (md 11), .ref (md 12), .ref (md 13), .ref (md 14), .ref (md 15), .ref (md 16), .ref (md 17), .ref (md 18), .ref (md 19), .ref (md 20), .ref (md 21), .ref (md 22), .ref (md 23), .ref (md 24), .ref (md 25), .ref (md 26), .ref (md 27), .ref (md 28), .int 0, .int 0, .int 0, .int 0, .int 0, .int 0, .int 0, .int 0, .int 0, .int 0, .int 0, .ref (md 40), .ref (md 41), .int 0, .int 0, .ref (md 44), .int 0, .int 0, .ref (md 47), .ref (md 48), .int 0, .ref (md 50), .ref (md 51), .ref (md 52), .ref (md 53), .ref (md 54), .int 0, .int 0, .ref (md 57), .ref (md 58)])), (md 40, .inl (cyI, 520, .inl g))] := hD
    refine tp_c (w := 0) qu2797 ?_
    refine lv_aload_n hx hb dX7_dirtiest_24 rfl (lv_at hl 3 rfl) ?_
    refine va_get (D := (dC, dI)) (ci := 7) (v := .ref (md 13)) (C := RX7) (T := TX7) (N := 59) hx hb hts hi7 hown hK hP 1 rfl rfl 13 (by decide) (hts _ (ow_m (k := 6) rfl)) (fun _ h9 => h9) rfl dX7_dirtiest_25 ?_
    refine lv_aload_n hx hb dX7_dirtiest_28 rfl (lv_at hl 3 rfl) ?_
    refine va_get (D := (dC, dI)) (ci := 7) (v := .int 0) (C := RX7) (T := TX7) (N := 59) hx hb hts hi7 hown hK hP 1 rfl rfl 29 (by decide) (hts _ (ow_m (k := 7) rfl)) (fun _ h9 => h9) rfl dX7_dirtiest_29 ?_
    refine va_iald hx hb hK hP 0 1 rfl rfl (vp_i (a := 0) (by decide) (by decide) (by decide)) dX7_dirtiest_32 ?_
    refine tp_c (w := 0) (by rfl) ?_
    refine lv_imul hx hb dX7_dirtiest_33 ?_
    refine tp_c (w := 0) (by decide) ?_
    refine lv_icmp_ge (tgt := 93) hx hb dX7_dirtiest_34 (by decide) (fun _ => ?_) (fun c2798 => absurd (by decide) c2798)
    refine lv_iload_n hx hb dX7_dirtiest_93 rfl (lv_at hl 2 rfl) ?_
    refine lv_if_ge (tgt := 101) hx hb dX7_dirtiest_94 (by decide) (fun c2799 => absurd c2799 (by decide)) (fun _ => ?_)
    refine lv_iconst (v := (-1)) hx hb dX7_dirtiest_97 (by decide) ?_
    refine lv_goto (tgt := 143) hx hb dX7_dirtiest_98 (by decide) ?_
    exact W.iret (v := (-1)) hx hb hr (fun t ht hW => ⟨⟨(-1), (), rfl, rfl, cE.nil⟩, hS.F ht⟩) hS.2.2 dX7_dirtiest_143
def wo_c_M_soonestOf : List Cond := [.methodLink RX7 316 yX7_isIn, .static yX7_isIn, .initialized RX7, .constant RX7 422 100000, .methodLink RX7 313 yX7_lots, .instanceMethod yX7_lots, .selects RX7 yX7_lots yX7_lots]
def wq_c_M_soonestOf : List Cond := .code yX7_soonestOf cX7_soonestOf 6 (some .int) :: (wo_c_M_soonestOf ++ (wq_k_X7_isIn_v6 ++ (wq_k_X7_lots_v5 ++ [])))
theorem gd_c_M_soonestOf : Gd wq_c_M_soonestOf := gd_c (gd_a (gd_o (by decide +kernel)) (gd_a gd_k_X7_isIn_v6 (gd_a gd_k_X7_lots_v5 gd_0)))
abbrev wc_c_M_soonestOf (cyB cyI cyJ cyZ cyO : ClassId) (h1 : Nat) (md : Nat → Nat) (g : Nat → Int32) (x1 : Int32) : va_W := [(h1, .inr (7, [.ref (md 0), .ref (md 1), .int 0, .int 0, .int 0, .int (-1), .int 0, .int 0, .int 0, .int 0, .long 0, .ref (md 11), .ref (md 12), .ref (md 13), .ref (md 14), .ref (md 15), .ref (md 16), .ref (md 17), .ref (md 18), .ref (md 19), .ref (md 20), .ref (md 21), .ref (md 22), .ref (md 23), .ref (md 24), .ref (md 25), .ref (md 26), .ref (md 27), .ref (md 28), .int 0, .int 0, .int 0, .int 0, .int 0, .int 0, .int 0, .int 0, .int 0, .int 0, .int 0, .ref (md 40), .ref (md 41), .int 0, .int 0, .ref (md 44), .int 0, .int 0, .ref (md 47), .ref (md 48), .int 0, .ref (md 50), .ref (md 51), .ref (md 52), .ref (md 53), .ref (md 54), .int 0, .int 0, .ref (md 57), .ref (md 58)])), (md 40, .inl (cyI, 520, .inl g))]
set_option maxHeartbeats 4000000 in
set_option maxRecDepth 100000 in
theorem c_M_soonestOf (l : Launch) (dC : Nat → ClassId) (dI : Nat → Nat → Nat) (cyB cyI cyJ cyZ cyO : ClassId) (h1 : Nat) (md : Nat → Nat) (g : Nat → Int32) (x1 : Int32) (sz : Nat) (hg : AllZ g) : Met l yX7_soonestOf wq_c_M_soonestOf ({ frames := 1, cells := 0, slots := 0, locals := 22 }) (va_Pc [.ref h1, .int x1] (cB (dC, dI) (kT cyB cyI cyJ cyZ cyO) (wc_c_M_soonestOf cyB cyI cyJ cyZ cyO h1 md g x1) sz)) (va_Qi (fun (r : Int32) (_ : Unit) => r = -1) (fun (u : Unit) t => cE (dC, dI) (va_A (wc_c_M_soonestOf cyB cyI cyJ cyZ cyO h1 md g x1) sz) ([]) t.heap) (va_A (wc_c_M_soonestOf cyB cyI cyJ cyZ cyO h1 md g x1) sz)) 0 0 (va_A (wc_c_M_soonestOf cyB cyI cyJ cyZ cyO h1 md g x1) sz) := by
  refine Met.ofW (cc := cX7_soonestOf) (maxL := 6) (ret := (some .int)) (by decide) rfl ?_
  intro p e s m args below meth c s₁ B hml hv
  obtain ⟨rfl, hsz, hP, hKN, hD0⟩ := hv
  have hx := B.exec
  have hb := B.bytes
  have hr := B.returns
  have hts := atoms_spec (ws := wq_c_M_soonestOf) B.pre
  have hown : s.vm.findClass RX7 = some m.cls := findClass_of_methodNamed B.named
  have hlocks := B.notSynchronized
  have hK := hKN.1
  have hfix : CallFix p m c cX7_soonestOf 6 s [.ref h1, .int x1].toArray wq_c_M_soonestOf RX7 := ⟨hx, hb, hml, hown, hts⟩
  subst hsz
  have hD := hD0.self (sz := s.heap.size)
  generalize hAe : va_A (wc_c_M_soonestOf cyB cyI cyJ cyZ cyO h1 md g x1) s.heap.size = A at hD ⊢
  have hA : ∀ q : Nat, s.heap.size ≤ q → A q := fun q h => by rw [← hAe]; exact Or.inr h
  have hS : va_S A s.heap s.heap [] := va_S.rf
  have hl := lv_entry ([.ref h1, .int x1]) (n := 6) (Nat.le_of_ble_eq_true rfl)
  rw [lg_entry_eq]
  generalize (lg_sl ([.ref h1, .int x1]) ++ List.replicate (6 - (lg_sl ([.ref h1, .int x1])).length) Slot.unset).toArray = ls at hl ⊢
  have hl : lv_has ls 6 [(0, .ref h1), (1, .int x1)] := hl
  refine lv_iload_n hx hb dX7_soonestOf_0 rfl (lv_at hl 1 rfl) ?_
  refine lv_iconst (v := 0) hx hb dX7_soonestOf_1 (by decide) ?_
  refine lv_iconst (v := 2) hx hb dX7_soonestOf_2 (by decide) ?_
  refine gf_i (wr := [(h1, .inr (7, [.ref (md 0), .ref (md 1), .int 0, .int 0, .int 0, .int (-1), .int 0, .int 0, .int 0, .int 0, .long 0, .ref (md 11), .ref (md 12), .ref (md 13), .ref (md 14), .ref (md 15), .ref (md 16), .ref (md 17), .ref (md 18), .ref (md 19), .ref (md 20), .ref (md 21), .ref (md 22), .ref (md 23), .ref (md 24), .ref (md 25), .ref (md 26), .ref (md 27), .ref (md 28), .int 0, .int 0, .int 0, .int 0, .int 0, .int 0, .int 0, .int 0, .int 0, .int 0, .int 0, .ref (md 40), .ref (md 41), .int 0, .int 0, .ref (md 44), .int 0, .int 0, .ref (md 47), .ref (md 48), .int 0, .ref (md 50), .ref (md 51), .ref (md 52), .ref (md 53), .ref (md 54), .int 0, .int 0, .ref (md 57), .ref (md 58)])), (md 40, .inl (cyI, 520, .inl g))]) (va_runS (As := [.int x1, .int 0, .int 2]) (rest := []) hfix (k_X7_isIn_v6 l dC dI cyB cyI cyJ cyZ cyO x1 _) (va_cwS 3 hts (gi_S (ow_m (k := 0) rfl) (ow_m (k := 1) rfl) (ow_m (k := 2) rfl) (sb_c sb_l) gd_k_X7_isIn_v6) rfl rfl rfl (by decide +kernel) ⟨Nat.le_of_ble_eq_true rfl, Nat.le_of_ble_eq_true rfl⟩) (g_preS hKN hP hD [] rfl (by decide)) rfl rfl hl.1 rfl (lv_room (Nat.le_of_ble_eq_true rfl)) dX7_soonestOf_3 ⟨Nat.le_of_ble_eq_true rfl, Nat.le_of_ble_eq_true rfl⟩) hP hD hS hA [] [0, 1] rfl rfl (by decide) (by decide) (fun r2818 u2819 H locs qu2819 hP hD hS => ?_)
  have hP : va_P (dC, dI) vwCl [(h1, .inr (7, [.ref (md 0), .ref (md 1), .int 0, .int 0, .int 0, .int (-1), .int 0, .int 0, .int 0, .int 0, .long 0, .ref (md 11), .ref (md 12), .ref (md 13), .ref (md 14), .ref (md 15), .ref (md 16), .ref (md 17), .ref (md 18), .ref (md 19), .ref (md 20), .ref (md 21), .ref (md 22), .ref (md 23), .ref (md 24), .ref (md 25), .ref (md 26), .ref (md 27), .ref (md 28), .int 0, .int 0, .int 0, .int 0, .int 0, .int 0, .int 0, .int 0, .int 0, .int 0, .int 0, .ref (md 40), .ref (md 41), .int 0, .int 0, .ref (md 44), .int 0, .int 0, .ref (md 47), .ref (md 48), .int 0, .ref (md 50), .ref (md 51), .ref (md 52), .ref (md 53), .ref (md 54), .int 0, .int 0, .ref (md 57), .ref (md 58)])), (md 40, .inl (cyI, 520, .inl g))] H := hP
  have hD : va_D A [(h1, .inr (7, [.ref (md 0), .ref (md 1), .int 0, .int 0, .int 0, .int (-1), .int 0, .int 0, .int 0, .int 0, .long 0, .ref (md 11), .ref (md 12), .ref (md 13), .ref (md 14), .ref (md 15), .ref (md 16), .ref (md 17), .ref (md 18), .ref (md 19), .ref (md 20), .ref (md 21), .ref (md 22), .ref (md 23), .ref (md 24), .ref (md 25), .ref (md 26), .ref (md 27), .ref (md 28), .int 0, .int 0, .int 0, .int 0, .int 0, .int 0, .int 0, .int 0, .int 0, .int 0, .int 0, .ref (md 40), .ref (md 41), .int 0, .int 0, .ref (md 44), .int 0, .int 0, .ref (md 47), .ref (md 48), .int 0, .ref (md 50), .ref (md 51), .ref (md 52), .ref (md 53), .ref (md 54), .int 0, .int 0, .ref (md 57), .ref (md 58)])), (md 40, .inl (cyI, 520, .inl g))] := hD
  rcases qu2819 with ⟨rfl, b2820⟩ | ⟨rfl, b2821, b2822⟩ | ⟨rfl, b2823, b2824⟩
  · skip
    refine lv_if_ne (tgt := 11) hx hb dX7_soonestOf_6 (by decide) (fun c2825 => absurd (by decide) c2825) (fun _ => ?_)
    refine lv_iconst (v := (-1)) hx hb dX7_soonestOf_9 (by decide) ?_
    exact W.iret (v := (-1)) hx hb hr (fun t ht hW => ⟨⟨(-1), (), rfl, rfl, cE.nil⟩, hS.F ht⟩) hS.2.2 dX7_soonestOf_10
  · skip
    refine lv_if_ne (tgt := 11) hx hb dX7_soonestOf_6 (by decide) (fun c2826 => absurd (by decide) c2826) (fun _ => ?_)
    refine lv_iconst (v := (-1)) hx hb dX7_soonestOf_9 (by decide) ?_
    exact W.iret (v := (-1)) hx hb hr (fun t ht hW => ⟨⟨(-1), (), rfl, rfl, cE.nil⟩, hS.F ht⟩) hS.2.2 dX7_soonestOf_10
  · skip
    refine lv_if_ne (tgt := 11) hx hb dX7_soonestOf_6 (by decide) (fun _ => ?_) (fun c2827 => absurd c2827 (by decide))
    refine lv_iconst (v := (-1)) hx hb dX7_soonestOf_11 (by decide) ?_
    refine lv_istore_n (lv' := [(2, .int (-1)), (0, .ref h1), (1, .int x1)]) hx hb dX7_soonestOf_12 rfl hl (by decide) rfl (fun ls hl => ?_)
    refine lv_ldcw (v := 100000) hx hb hown (hts _ (ow_m (k := 3) rfl)) dX7_soonestOf_13 ?_
    refine lv_istore_n (lv' := [(3, .int 100000), (2, .int (-1)), (0, .ref h1), (1, .int x1)]) hx hb dX7_soonestOf_16 rfl hl (by decide) rfl (fun ls hl => ?_)
    refine lv_iconst (v := 0) hx hb dX7_soonestOf_17 (by decide) ?_
    refine lv_istore (lv' := [(4, .int 0), (3, .int 100000), (2, .int (-1)), (0, .ref h1), (1, .int x1)]) hx hb dX7_soonestOf_18 hl (by decide) rfl (fun ls hl => ?_)
    refine lv_iload hx hb dX7_soonestOf_20 (lv_at hl 0 rfl) ?_
    refine lv_iconst (v := 2) hx hb dX7_soonestOf_22 (by decide) ?_
    refine lv_aload_n hx hb dX7_soonestOf_23 rfl (lv_at hl 3 rfl) ?_
    refine gf_i (wr := []) (va_runV (As := []) (rest := [.int 2, .int 0]) hfix (k_X7_lots_v5 l dC dI cyB cyI cyJ cyZ cyO h1 md g _ hg) (cwV 0 hts (gi_V (ow_m (k := 4) rfl) (ow_m (k := 5) rfl) (ow_m (k := 6) rfl) (ow_m (k := 2) rfl) (sb_c (sb_r sb_l)) gd_k_X7_lots_v5) rfl rfl rfl (by decide +kernel) ⟨Nat.le_of_ble_eq_true rfl, Nat.le_of_ble_eq_true rfl⟩) (g_preV hKN hP hD [0, 1] rfl (by decide) 0 7 rfl rfl) rfl rfl hl.1 rfl (lv_room (Nat.le_of_ble_eq_true rfl)) dX7_soonestOf_24 ⟨Nat.le_of_ble_eq_true rfl, Nat.le_of_ble_eq_true rfl⟩) hP hD hS hA [0, 1] [] rfl rfl (by decide) (by decide) (fun r2828 u2829 H locs qu2829 hP hD hS => ?_)
    have hP : va_P (dC, dI) vwCl [(h1, .inr (7, [.ref (md 0), .ref (md 1), .int 0, .int 0, .int 0, .int (-1), .int 0, .int 0, .int 0, .int 0, .long 0, .ref (md 11), .ref (md 12), .ref (md 13), .ref (md 14), .ref (md 15), .ref (md 16), .ref (md 17), .ref (md 18), .ref (md 19), .ref (md 20), .ref (md 21), .ref (md 22), .ref (md 23), .ref (md 24), .ref (md 25), .ref (md 26), .ref (md 27), .ref (md 28), .int 0, .int 0, .int 0, .int 0, .int 0, .int 0, .int 0, .int 0, .int 0, .int 0, .int 0, .ref (md 40), .ref (md 41), .int 0, .int 0, .ref (md 44), .int 0, .int 0, .ref (md 47), .ref (md 48), .int 0, .ref (md 50), .ref (md 51), .ref (md 52), .ref (md 53), .ref (md 54), .int 0, .int 0, .ref (md 57), .ref (md 58)])), (md 40, .inl (cyI, 520, .inl g))] H := hP
    have hD : va_D A [(h1, .inr (7, [.ref (md 0), .ref (md 1), .int 0, .int 0, .int 0, .int (-1), .int 0, .int 0, .int 0, .int 0, .long 0, .ref (md 11), .ref (md 12), .ref (md 13), .ref (md 14), .ref (md 15), .ref (md 16), .ref (md 17), .ref (md 18), .ref (md 19), .ref (md 20), .ref (md 21), .ref (md 22), .ref (md 23), .ref (md 24), .ref (md 25), .ref (md 26), .ref (md 27), .ref (md 28), .int 0, .int 0, .int 0, .int 0, .int 0, .int 0, .int 0, .int 0, .int 0, .int 0, .int 0, .ref (md 40), .ref (md 41), .int 0, .int 0, .ref (md 44), .int 0, .int 0, .ref (md 47), .ref (md 48), .int 0, .ref (md 50), .ref (md 51), .ref (md 52), .ref (md 53), .ref (md 54), .int 0, .int 0, .ref (md 57), .ref (md 58)])), (md 40, .inl (cyI, 520, .inl g))] := hD
    refine tp_c (w := 0) qu2829 ?_
    refine lv_imul hx hb dX7_soonestOf_27 ?_
    refine tp_c (w := 0) (by decide) ?_
    refine lv_iconst (v := 2) hx hb dX7_soonestOf_28 (by decide) ?_
    refine lv_isub hx hb dX7_soonestOf_29 ?_
    refine tp_c (w := (-2)) (by decide) ?_
    refine lv_icmp_ge (tgt := 73) hx hb dX7_soonestOf_30 (by decide) (fun _ => ?_) (fun c2830 => absurd (by decide) c2830)
    refine lv_iload_n hx hb dX7_soonestOf_73 rfl (lv_at hl 2 rfl) ?_
    refine lv_if_ge (tgt := 81) hx hb dX7_soonestOf_74 (by decide) (fun c2831 => absurd c2831 (by decide)) (fun _ => ?_)
    refine lv_iconst (v := (-1)) hx hb dX7_soonestOf_77 (by decide) ?_
    refine lv_goto (tgt := 103) hx hb dX7_soonestOf_78 (by decide) ?_
    exact W.iret (v := (-1)) hx hb hr (fun t ht hW => ⟨⟨(-1), (), rfl, rfl, cE.nil⟩, hS.F ht⟩) hS.2.2 dX7_soonestOf_103
def wo_c_M_idle : List Cond := [.fieldLink RX7 20 "ReplicaChainModel" "nodes" "[I", .fieldLink RX7 214 "ReplicaChainModel" "bank" "I"]
def wq_c_M_idle : List Cond := .code yX7_idle cX7_idle 3 (some .int) :: (wo_c_M_idle ++ (wsX70 ++ []))
theorem gd_c_M_idle : Gd wq_c_M_idle := gd_c (gd_a (gd_o (by decide +kernel)) (gd_a gd_u gd_0))
abbrev wc_c_M_idle (cyB cyI cyJ cyZ cyO : ClassId) (h1 : Nat) (md : Nat → Nat) : va_W := [(h1, .inr (7, [.ref (md 0), .ref (md 1), .int 0, .int 0, .int 0, .int (-1), .int 0, .int 0, .int 0, .int 0, .long 0, .ref (md 11), .ref (md 12), .ref (md 13), .ref (md 14), .ref (md 15), .ref (md 16), .ref (md 17), .ref (md 18), .ref (md 19), .ref (md 20), .ref (md 21), .ref (md 22), .ref (md 23), .ref (md 24), .ref (md 25), .ref (md 26), .ref (md 27), .ref (md 28), .int 0, .int 0, .int 0, .int 0, .int 0, .int 0, .int 0, .int 0, .int 0, .int 0, .int 0, .ref (md 40), .ref (md 41), .int 0, .int 0, .ref (md 44), .int 0, .int 0, .ref (md 47), .ref (md 48), .int 0, .ref (md 50), .ref (md 51), .ref (md 52), .ref (md 53), .ref (md 54), .int 0, .int 0, .ref (md 57), .ref (md 58)])), (md 11, .inl (cyI, 2, .inl (fun _ => 0)))]
set_option maxHeartbeats 4000000 in
set_option maxRecDepth 100000 in
theorem c_M_idle (l : Launch) (dC : Nat → ClassId) (dI : Nat → Nat → Nat) (cyB cyI cyJ cyZ cyO : ClassId) (h1 : Nat) (md : Nat → Nat) (sz : Nat) : Met l yX7_idle wq_c_M_idle ({ frames := 0, cells := 0, slots := 0, locals := 0 }) (va_Pc [.ref h1] (cB (dC, dI) (kT cyB cyI cyJ cyZ cyO) (wc_c_M_idle cyB cyI cyJ cyZ cyO h1 md) sz)) (va_Qi (fun (r : Int32) (_ : Unit) => r = 0) (fun (u : Unit) t => cE (dC, dI) (va_A (wc_c_M_idle cyB cyI cyJ cyZ cyO h1 md) sz) ([]) t.heap) (va_A (wc_c_M_idle cyB cyI cyJ cyZ cyO h1 md) sz)) 0 0 (va_A (wc_c_M_idle cyB cyI cyJ cyZ cyO h1 md) sz) := by
  refine Met.ofW (cc := cX7_idle) (maxL := 3) (ret := (some .int)) (by decide) rfl ?_
  intro p e s m args below meth c s₁ B hml hv
  obtain ⟨rfl, hsz, hP, hKN, hD0⟩ := hv
  have hx := B.exec
  have hb := B.bytes
  have hr := B.returns
  have hts := atoms_spec (ws := wq_c_M_idle) B.pre
  have hown : s.vm.findClass RX7 = some m.cls := findClass_of_methodNamed B.named
  have hlocks := B.notSynchronized
  have hK := hKN.1
  have hfix : CallFix p m c cX7_idle 3 s [.ref h1].toArray wq_c_M_idle RX7 := ⟨hx, hb, hml, hown, hts⟩
  have hi7 : ∀ w ∈ wsX70, w ∈ wq_c_M_idle := (sb_c sb_l)
  subst hsz
  have hD := hD0.self (sz := s.heap.size)
  generalize hAe : va_A (wc_c_M_idle cyB cyI cyJ cyZ cyO h1 md) s.heap.size = A at hD ⊢
  have hA : ∀ q : Nat, s.heap.size ≤ q → A q := fun q h => by rw [← hAe]; exact Or.inr h
  have hS : va_S A s.heap s.heap [] := va_S.rf
  have hl := lv_entry ([.ref h1]) (n := 3) (Nat.le_of_ble_eq_true rfl)
  rw [lg_entry_eq]
  generalize (lg_sl ([.ref h1]) ++ List.replicate (3 - (lg_sl ([.ref h1])).length) Slot.unset).toArray = ls at hl ⊢
  have hl : lv_has ls 3 [(0, .ref h1)] := hl
  refine lv_iconst (v := 0) hx hb dX7_idle_0 (by decide) ?_
  refine lv_istore_n (lv' := [(1, .int 0), (0, .ref h1)]) hx hb dX7_idle_1 rfl hl (by decide) rfl (fun ls hl => ?_)
  refine lv_iconst (v := 0) hx hb dX7_idle_2 (by decide) ?_
  refine lv_istore_n (lv' := [(2, .int 0), (1, .int 0), (0, .ref h1)]) hx hb dX7_idle_3 rfl hl (by decide) rfl (fun ls hl => ?_)
  refine lv_iload_n hx hb dX7_idle_4 rfl (lv_at hl 0 rfl) ?_
  refine lv_aload_n hx hb dX7_idle_5 rfl (lv_at hl 2 rfl) ?_
  refine va_get (D := (dC, dI)) (ci := 7) (v := .ref (md 11)) (C := RX7) (T := TX7) (N := 59) hx hb hts hi7 hown hK hP 0 rfl rfl 11 (by decide) (hts _ (ow_m (k := 0) rfl)) (fun _ h9 => h9) rfl dX7_idle_6 ?_
  refine lv_aload_n hx hb dX7_idle_9 rfl (lv_at hl 2 rfl) ?_
  refine va_get (D := (dC, dI)) (ci := 7) (v := .int 0) (C := RX7) (T := TX7) (N := 59) hx hb hts hi7 hown hK hP 0 rfl rfl 29 (by decide) (hts _ (ow_m (k := 1) rfl)) (fun _ h9 => h9) rfl dX7_idle_10 ?_
  refine va_iald hx hb hK hP 1 1 rfl rfl (vp_i (a := 0) (by decide) (by decide) (by decide)) dX7_idle_13 ?_
  refine tp_c (w := 0) (by rfl) ?_
  refine lv_icmp_ge (tgt := 37) hx hb dX7_idle_14 (by decide) (fun _ => ?_) (fun c2833 => absurd (by decide) c2833)
  refine lv_iload_n hx hb dX7_idle_37 rfl (lv_at hl 1 rfl) ?_
  exact W.iret (v := 0) hx hb hr (fun t ht hW => ⟨⟨0, (), rfl, rfl, cE.nil⟩, hS.F ht⟩) hS.2.2 dX7_idle_38
