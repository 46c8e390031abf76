def wo_k_M_lots : List Cond := [.fieldLink RX7 76 "ReplicaChainModel" "all" "[I"]
def wq_k_M_lots : List Cond := .code yX7_lots cX7_lots 1 (some .int) :: (wo_k_M_lots ++ (wsX70 ++ []))
theorem gd_k_M_lots : Gd wq_k_M_lots := gd_c (gd_a (gd_o (by decide +kernel)) (gd_a gd_u gd_0))
abbrev wc_k_M_lots (cyB cyI cyJ cyZ cyO : ClassId) (hM : Nat) (md : Nat → Nat) (m_all : Nat → Int32) (m_taped : Int32) (m_size : Int32) (m_faultKind : Int32) (m_faultPlace : Int32) (m_at : Int32) (m_end : Int32) (m_token : Int32) (m_number : Int32) (m_bank : Int32) (m_rb : Int32) (m_codes : Int32) (m_within : Int32) (m_piled : Int32) (m_unitsInRule : Int32) (m_askFrom : Int32) (m_askTo : Int32) (m_askWrite : Int32) (m_askUnder : Int32) (m_askBack : Int32) (m_thoughtSlow : Int32) (m_came : Int32) (m_acts : Int32) (m_undone : Int32) (m_laid : Int32) (m_seens : Int32) (m_time : Int32) (m_name : Int64) : va_W := [(hM, .inr (7, [.ref (md 0), .ref (md 1), .int m_taped, .int m_size, .int m_faultKind, .int m_faultPlace, .int m_at, .int m_end, .int m_token, .int m_number, .long m_name, .ref (md 11), .ref (md 12), .ref (md 13), .ref (md 14), .ref (md 15), .ref (md 16), .ref (md 17), .ref (md 18), .ref (md 19), .ref (md 20), .ref (md 21), .ref (md 22), .ref (md 23), .ref (md 24), .ref (md 25), .ref (md 26), .ref (md 27), .ref (md 28), .int m_bank, .int m_rb, .int m_codes, .int m_within, .int m_piled, .int m_unitsInRule, .int m_askFrom, .int m_askTo, .int m_askWrite, .int m_askUnder, .int m_askBack, .ref (md 40), .ref (md 41), .int m_thoughtSlow, .int m_came, .ref (md 44), .int m_acts, .int m_undone, .ref (md 47), .ref (md 48), .int m_laid, .ref (md 50), .ref (md 51), .ref (md 52), .ref (md 53), .ref (md 54), .int m_seens, .int m_time, .ref (md 57), .ref (md 58)])), (md 40, .inl (cyI, 520, .inl m_all))]
set_option maxHeartbeats 4000000 in
set_option maxRecDepth 100000 in
theorem k_M_lots (l : Launch) (dC : Nat → ClassId) (dI : Nat → Nat → Nat) (cyB cyI cyJ cyZ cyO : ClassId) (hM : Nat) (md : Nat → Nat) (m_all : Nat → Int32) (m_taped : Int32) (m_size : Int32) (m_faultKind : Int32) (m_faultPlace : Int32) (m_at : Int32) (m_end : Int32) (m_token : Int32) (m_number : Int32) (m_bank : Int32) (m_rb : Int32) (m_codes : Int32) (m_within : Int32) (m_piled : Int32) (m_unitsInRule : Int32) (m_askFrom : Int32) (m_askTo : Int32) (m_askWrite : Int32) (m_askUnder : Int32) (m_askBack : Int32) (m_thoughtSlow : Int32) (m_came : Int32) (m_acts : Int32) (m_undone : Int32) (m_laid : Int32) (m_seens : Int32) (m_time : Int32) (m_name : Int64) (sz : Nat) (l_m_taped : 0 ≤ m_taped.toInt) (u_m_taped : m_taped.toInt ≤ 1600) (l_m_size : 0 ≤ m_size.toInt) (u_m_size : m_size.toInt ≤ 1600) (l_m_bank : 0 ≤ m_bank.toInt) (u_m_bank : m_bank.toInt ≤ 1) (l_m_rb : 0 ≤ m_rb.toInt) (u_m_rb : m_rb.toInt ≤ 1) (l_m_acts : 0 ≤ m_acts.toInt) (u_m_acts : m_acts.toInt ≤ 40) (l_m_undone : 0 ≤ m_undone.toInt) (u_m_undone : m_undone.toInt ≤ 40) (l_m_laid : 0 ≤ m_laid.toInt) (u_m_laid : m_laid.toInt ≤ 6) (l_m_seens : 0 ≤ m_seens.toInt) (u_m_seens : m_seens.toInt ≤ 30) (l_m_time : 0 ≤ m_time.toInt) (u_m_time : m_time.toInt ≤ 100000) (i0_m_all : In2 m_all 0 1 (0) (6)) (i1_m_all : In2 m_all 1 7 (0) (7)) (i2_m_all : In2 m_all 7 15 (0) (40)) (i3_m_all : In2 m_all 15 23 (0) (40)) (i4_m_all : In2 m_all 105 106 (-1) (7)) (i5_m_all : In2 m_all 109 110 (0) (999)) : Met l yX7_lots wq_k_M_lots ({ frames := 0, cells := 0, slots := 0, locals := 0 }) (va_Pc [.ref hM] (cB (dC, dI) (kT cyB cyI cyJ cyZ cyO) (wc_k_M_lots cyB cyI cyJ cyZ cyO hM md m_all m_taped m_size m_faultKind m_faultPlace m_at m_end m_token m_number m_bank m_rb m_codes m_within m_piled m_unitsInRule m_askFrom m_askTo m_askWrite m_askUnder m_askBack m_thoughtSlow m_came m_acts m_undone m_laid m_seens m_time m_name) sz)) (va_Qi (fun (r : Int32) (u : Unit) => (0 ≤ r.toInt) ∧ (r.toInt ≤ 6) ∧ (r = m_all 0)) (fun (u : Unit) t => cE (dC, dI) (va_A (wc_k_M_lots cyB cyI cyJ cyZ cyO hM md m_all m_taped m_size m_faultKind m_faultPlace m_at m_end m_token m_number m_bank m_rb m_codes m_within m_piled m_unitsInRule m_askFrom m_askTo m_askWrite m_askUnder m_askBack m_thoughtSlow m_came m_acts m_undone m_laid m_seens m_time m_name) sz) ([(hM, .inr (7, [.ref (md 0), .ref (md 1), .int m_taped, .int m_size, .int m_faultKind, .int m_faultPlace, .int m_at, .int m_end, .int m_token, .int m_number, .long m_name, .ref (md 11), .ref (md 12), .ref (md 13), .ref (md 14), .ref (md 15), .ref (md 16), .ref (md 17), .ref (md 18), .ref (md 19), .ref (md 20), .ref (md 21), .ref (md 22), .ref (md 23), .ref (md 24), .ref (md 25), .ref (md 26), .ref (md 27), .ref (md 28), .int m_bank, .int m_rb, .int m_codes, .int m_within, .int m_piled, .int m_unitsInRule, .int m_askFrom, .int m_askTo, .int m_askWrite, .int m_askUnder, .int m_askBack, .ref (md 40), .ref (md 41), .int m_thoughtSlow, .int m_came, .ref (md 44), .int m_acts, .int m_undone, .ref (md 47), .ref (md 48), .int m_laid, .ref (md 50), .ref (md 51), .ref (md 52), .ref (md 53), .ref (md 54), .int m_seens, .int m_time, .ref (md 57), .ref (md 58)])), (md 40, .inl (cyI, 520, .inl m_all))]) t.heap) (va_A (wc_k_M_lots cyB cyI cyJ cyZ cyO hM md m_all m_taped m_size m_faultKind m_faultPlace m_at m_end m_token m_number m_bank m_rb m_codes m_within m_piled m_unitsInRule m_askFrom m_askTo m_askWrite m_askUnder m_askBack m_thoughtSlow m_came m_acts m_undone m_laid m_seens m_time m_name) sz)) 0 0 (va_A (wc_k_M_lots cyB cyI cyJ cyZ cyO hM md m_all m_taped m_size m_faultKind m_faultPlace m_at m_end m_token m_number m_bank m_rb m_codes m_within m_piled m_unitsInRule m_askFrom m_askTo m_askWrite m_askUnder m_askBack m_thoughtSlow m_came m_acts m_undone m_laid m_seens m_time m_name) sz) := by
  refine Met.ofW (cc := cX7_lots) (maxL := 1) (ret := (some .int)) (by decide) rfl ?_
  intro p e s m args below meth c s₁ B hml hv
  obtain ⟨rfl, hsz, hP, hKN, hD0⟩ := hv
  have hx := B.exec
  have hb := B.bytes
  have hr := B.returns
  have hts := atoms_spec (ws := wq_k_M_lots) B.pre
  have hown : s.vm.findClass RX7 = some m.cls := findClass_of_methodNamed B.named
  have hlocks := B.notSynchronized
  have hK := hKN.1
  have hfix : CallFix p m c cX7_lots 1 s [.ref hM].toArray wq_k_M_lots RX7 := ⟨hx, hb, hml, hown, hts⟩
  have hi7 : ∀ w ∈ wsX70, w ∈ wq_k_M_lots := (sb_c sb_l)
  subst hsz
  have hD := hD0.self (sz := s.heap.size)
  generalize hAe : va_A (wc_k_M_lots cyB cyI cyJ cyZ cyO hM md m_all m_taped m_size m_faultKind m_faultPlace m_at m_end m_token m_number m_bank m_rb m_codes m_within m_piled m_unitsInRule m_askFrom m_askTo m_askWrite m_askUnder m_askBack m_thoughtSlow m_came m_acts m_undone m_laid m_seens m_time m_name) s.heap.size = A at hD ⊢
  have hA : ∀ q : Nat, s.heap.size ≤ q → A q := fun q h => by rw [← hAe]; exact Or.inr h
  have hS : va_S A s.heap s.heap [] := va_S.rf
  have hl := lv_entry ([.ref hM]) (n := 1) (Nat.le_of_ble_eq_true rfl)
  rw [lg_entry_eq]
  generalize (lg_sl ([.ref hM]) ++ List.replicate (1 - (lg_sl ([.ref hM])).length) Slot.unset).toArray = ls at hl ⊢
  have hl : lv_has ls 1 [(0, .ref hM)] := hl
  refine lv_aload_n hx hb dX7_lots_0 rfl (lv_at hl 0 rfl) ?_
  refine va_get (D := (dC, dI)) (ci := 7) (v := .ref (md 40)) (C := RX7) (T := TX7) (N := 59) hx hb hts hi7 hown hK hP 0 rfl rfl 40 (by decide) (hts _ (ow_m (k := 0) rfl)) (fun _ h9 => h9) rfl dX7_lots_1 ?_
  refine lv_iconst (v := 0) hx hb dX7_lots_4 (by decide) ?_
  refine va_iald hx hb hK hP 1 1 rfl rfl (vp_i (a := 0) (by decide) (by decide) (by decide)) dX7_lots_5 ?_
  refine lv_topi (fun z13613 ez13613 => ?_)
  have tz13613 := i0_m_all.at (x := 0) ez13613 (by decide) (by decide) (by decide)
  have hq9 : z13613 = m_all 0 := ez13613
  have w13614 : 0 ≤ z13613.toInt := by first | omega | assumption | rfl
  have w13615 : z13613.toInt ≤ 6 := by first | omega | assumption | rfl
  have w13616 : z13613 = m_all 0 := by first | omega | assumption | rfl
  exact W.iret (v := z13613) hx hb hr (fun t ht hW => ⟨⟨z13613, (), rfl, ⟨w13614, w13615, w13616⟩, cE.of ht hP hD [0, 1] (by decide) rfl⟩, hS.F ht⟩) hS.2.2 dX7_lots_6
def wo_k_M_nodeAt : List Cond := [.fieldLink RX7 76 "ReplicaChainModel" "all" "[I"]
def wq_k_M_nodeAt : List Cond := .code yX7_nodeAt cX7_nodeAt 2 (some .int) :: (wo_k_M_nodeAt ++ (wsX70 ++ []))
theorem gd_k_M_nodeAt : Gd wq_k_M_nodeAt := gd_c (gd_a (gd_o (by decide +kernel)) (gd_a gd_u gd_0))
abbrev wc_k_M_nodeAt (cyB cyI cyJ cyZ cyO : ClassId) (hM : Nat) (md : Nat → Nat) (m_all : Nat → Int32) (m_taped : Int32) (m_size : Int32) (m_faultKind : Int32) (m_faultPlace : Int32) (m_at : Int32) (m_end : Int32) (m_token : Int32) (m_number : Int32) (m_bank : Int32) (m_rb : Int32) (m_codes : Int32) (m_within : Int32) (m_piled : Int32) (m_unitsInRule : Int32) (m_askFrom : Int32) (m_askTo : Int32) (m_askWrite : Int32) (m_askUnder : Int32) (m_askBack : Int32) (m_thoughtSlow : Int32) (m_came : Int32) (m_acts : Int32) (m_undone : Int32) (m_laid : Int32) (m_seens : Int32) (m_time : Int32) (m_name : Int64) (x1 : Int32) : va_W := [(hM, .inr (7, [.ref (md 0), .ref (md 1), .int m_taped, .int m_size, .int m_faultKind, .int m_faultPlace, .int m_at, .int m_end, .int m_token, .int m_number, .long m_name, .ref (md 11), .ref (md 12), .ref (md 13), .ref (md 14), .ref (md 15), .ref (md 16), .ref (md 17), .ref (md 18), .ref (md 19), .ref (md 20), .ref (md 21), .ref (md 22), .ref (md 23), .ref (md 24), .ref (md 25), .ref (md 26), .ref (md 27), .ref (md 28), .int m_bank, .int m_rb, .int m_codes, .int m_within, .int m_piled, .int m_unitsInRule, .int m_askFrom, .int m_askTo, .int m_askWrite, .int m_askUnder, .int m_askBack, .ref (md 40), .ref (md 41), .int m_thoughtSlow, .int m_came, .ref (md 44), .int m_acts, .int m_undone, .ref (md 47), .ref (md 48), .int m_laid, .ref (md 50), .ref (md 51), .ref (md 52), .ref (md 53), .ref (md 54), .int m_seens, .int m_time, .ref (md 57), .ref (md 58)])), (md 40, .inl (cyI, 520, .inl m_all))]
set_option maxHeartbeats 4000000 in
set_option maxRecDepth 100000 in
theorem k_M_nodeAt (l : Launch) (dC : Nat → ClassId) (dI : Nat → Nat → Nat) (cyB cyI cyJ cyZ cyO : ClassId) (hM : Nat) (md : Nat → Nat) (m_all : Nat → Int32) (m_taped : Int32) (m_size : Int32) (m_faultKind : Int32) (m_faultPlace : Int32) (m_at : Int32) (m_end : Int32) (m_token : Int32) (m_number : Int32) (m_bank : Int32) (m_rb : Int32) (m_codes : Int32) (m_within : Int32) (m_piled : Int32) (m_unitsInRule : Int32) (m_askFrom : Int32) (m_askTo : Int32) (m_askWrite : Int32) (m_askUnder : Int32) (m_askBack : Int32) (m_thoughtSlow : Int32) (m_came : Int32) (m_acts : Int32) (m_undone : Int32) (m_laid : Int32) (m_seens : Int32) (m_time : Int32) (m_name : Int64) (x1 : Int32) (sz : Nat) (l_m_taped : 0 ≤ m_taped.toInt) (u_m_taped : m_taped.toInt ≤ 1600) (l_m_size : 0 ≤ m_size.toInt) (u_m_size : m_size.toInt ≤ 1600) (l_m_bank : 0 ≤ m_bank.toInt) (u_m_bank : m_bank.toInt ≤ 1) (l_m_rb : 0 ≤ m_rb.toInt) (u_m_rb : m_rb.toInt ≤ 1) (l_m_acts : 0 ≤ m_acts.toInt) (u_m_acts : m_acts.toInt ≤ 40) (l_m_undone : 0 ≤ m_undone.toInt) (u_m_undone : m_undone.toInt ≤ 40) (l_m_laid : 0 ≤ m_laid.toInt) (u_m_laid : m_laid.toInt ≤ 6) (l_m_seens : 0 ≤ m_seens.toInt) (u_m_seens : m_seens.toInt ≤ 30) (l_m_time : 0 ≤ m_time.toInt) (u_m_time : m_time.toInt ≤ 100000) (i0_m_all : In2 m_all 0 1 (0) (6)) (i1_m_all : In2 m_all 1 7 (0) (7)) (i2_m_all : In2 m_all 7 15 (0) (40)) (i3_m_all : In2 m_all 15 23 (0) (40)) (i4_m_all : In2 m_all 105 106 (-1) (7)) (i5_m_all : In2 m_all 109 110 (0) (999)) (l_x1 : 0 ≤ x1.toInt) (u_x1 : x1.toInt ≤ 5) : Met l yX7_nodeAt wq_k_M_nodeAt ({ frames := 0, cells := 0, slots := 0, locals := 0 }) (va_Pc [.ref hM, .int x1] (cB (dC, dI) (kT cyB cyI cyJ cyZ cyO) (wc_k_M_nodeAt cyB cyI cyJ cyZ cyO hM md m_all m_taped m_size m_faultKind m_faultPlace m_at m_end m_token m_number m_bank m_rb m_codes m_within m_piled m_unitsInRule m_askFrom m_askTo m_askWrite m_askUnder m_askBack m_thoughtSlow m_came m_acts m_undone m_laid m_seens m_time m_name x1) sz)) (va_Qi (fun (r : Int32) (u : Unit) => (0 ≤ r.toInt) ∧ (r.toInt ≤ 7) ∧ (r = mr m_all x1.toNatClampNeg)) (fun (u : Unit) t => cE (dC, dI) (va_A (wc_k_M_nodeAt cyB cyI cyJ cyZ cyO hM md m_all m_taped m_size m_faultKind m_faultPlace m_at m_end m_token m_number m_bank m_rb m_codes m_within m_piled m_unitsInRule m_askFrom m_askTo m_askWrite m_askUnder m_askBack m_thoughtSlow m_came m_acts m_undone m_laid m_seens m_time m_name x1) sz) ([(hM, .inr (7, [.ref (md 0), .ref (md 1), .int m_taped, .int m_size, .int m_faultKind, .int m_faultPlace, .int m_at, .int m_end, .int m_token, .int m_number, .long m_name, .ref (md 11), .ref (md 12), .ref (md 13), .ref (md 14), .ref (md 15), .ref (md 16), .ref (md 17), .ref (md 18), .ref (md 19), .ref (md 20), .ref (md 21), .ref (md 22), .ref (md 23), .ref (md 24), .ref (md 25), .ref (md 26), .ref (md 27), .ref (md 28), .int m_bank, .int m_rb, .int m_codes, .int m_within, .int m_piled, .int m_unitsInRule, .int m_askFrom, .int m_askTo, .int m_askWrite, .int m_askUnder, .int m_askBack, .ref (md 40), .ref (md 41), .int m_thoughtSlow, .int m_came, .ref (md 44), .int m_acts, .int m_undone, .ref (md 47), .ref (md 48), .int m_laid, .ref (md 50), .ref (md 51), .ref (md 52), .ref (md 53), .ref (md 54), .int m_seens, .int m_time, .ref (md 57), .ref (md 58)])), (md 40, .inl (cyI, 520, .inl m_all))]) t.heap) (va_A (wc_k_M_nodeAt cyB cyI cyJ cyZ cyO hM md m_all m_taped m_size m_faultKind m_faultPlace m_at m_end m_token m_number m_bank m_rb m_codes m_within m_piled m_unitsInRule m_askFrom m_askTo m_askWrite m_askUnder m_askBack m_thoughtSlow m_came m_acts m_undone m_laid m_seens m_time m_name x1) sz)) 0 0 (va_A (wc_k_M_nodeAt cyB cyI cyJ cyZ cyO hM md m_all m_taped m_size m_faultKind m_faultPlace m_at m_end m_token m_number m_bank m_rb m_codes m_within m_piled m_unitsInRule m_askFrom m_askTo m_askWrite m_askUnder m_askBack m_thoughtSlow m_came m_acts m_undone m_laid m_seens m_time m_name x1) sz) := by
  refine Met.ofW (cc := cX7_nodeAt) (maxL := 2) (ret := (some .int)) (by decide) rfl ?_
  intro p e s m args below meth c s₁ B hml hv
  obtain ⟨rfl, hsz, hP, hKN, hD0⟩ := hv
  have hx := B.exec
  have hb := B.bytes
  have hr := B.returns
  have hts := atoms_spec (ws := wq_k_M_nodeAt) B.pre
  have hown : s.vm.findClass RX7 = some m.cls := findClass_of_methodNamed B.named
  have hlocks := B.notSynchronized
  have hK := hKN.1
  have hfix : CallFix p m c cX7_nodeAt 2 s [.ref hM, .int x1].toArray wq_k_M_nodeAt RX7 := ⟨hx, hb, hml, hown, hts⟩
  have hi7 : ∀ w ∈ wsX70, w ∈ wq_k_M_nodeAt := (sb_c sb_l)
  subst hsz
  have hD := hD0.self (sz := s.heap.size)
  generalize hAe : va_A (wc_k_M_nodeAt cyB cyI cyJ cyZ cyO hM md m_all m_taped m_size m_faultKind m_faultPlace m_at m_end m_token m_number m_bank m_rb m_codes m_within m_piled m_unitsInRule m_askFrom m_askTo m_askWrite m_askUnder m_askBack m_thoughtSlow m_came m_acts m_undone m_laid m_seens m_time m_name x1) s.heap.size = A at hD ⊢
  have hA : ∀ q : Nat, s.heap.size ≤ q → A q := fun q h => by rw [← hAe]; exact Or.inr h
  have hS : va_S A s.heap s.heap [] := va_S.rf
  have hl := lv_entry ([.ref hM, .int x1]) (n := 2) (Nat.le_of_ble_eq_true rfl)
  rw [lg_entry_eq]
  generalize (lg_sl ([.ref hM, .int x1]) ++ List.replicate (2 - (lg_sl ([.ref hM, .int x1])).length) Slot.unset).toArray = ls at hl ⊢
  have hl : lv_has ls 2 [(0, .ref hM), (1, .int x1)] := hl
  refine lv_aload_n hx hb dX7_nodeAt_0 rfl (lv_at hl 0 rfl) ?_
  refine va_get (D := (dC, dI)) (ci := 7) (v := .ref (md 40)) (C := RX7) (T := TX7) (N := 59) hx hb hts hi7 hown hK hP 0 rfl rfl 40 (by decide) (hts _ (ow_m (k := 0) rfl)) (fun _ h9 => h9) rfl dX7_nodeAt_1 ?_
  refine lv_iconst (v := 1) hx hb dX7_nodeAt_4 (by decide) ?_
  refine lv_iload_n hx hb dX7_nodeAt_5 rfl (lv_at hl 1 rfl) ?_
  refine lv_iadd hx hb dX7_nodeAt_6 ?_
  refine lv_topi (fun z13621 ez13621 => ?_)
  have tz13621 := ti_add (a := 1) (b := x1.toInt) ez13621 (by decide) rfl (by omega) (by omega)
  refine va_iald hx hb hK hP 1 1 rfl rfl (vp_i rfl (by omega) (by omega)) dX7_nodeAt_7 ?_
  refine lv_topi (fun z13622 ez13622 => ?_)
  have tz13622 := i1_m_all.at (x := z13621.toInt) ez13622 rfl (by omega) (by omega)
  have hq9 : z13622 = mr m_all x1.toNatClampNeg := by rw [ez13622, nn_add (k := 1) (i := x1) (by omega) (by omega)]
  have w13623 : 0 ≤ z13622.toInt := by first | omega | assumption | rfl
  have w13624 : z13622.toInt ≤ 7 := by first | omega | assumption | rfl
  have w13625 : z13622 = mr m_all x1.toNatClampNeg := by first | omega | assumption | rfl
  exact W.iret (v := z13622) hx hb hr (fun t ht hW => ⟨⟨z13622, (), rfl, ⟨w13623, w13624, w13625⟩, cE.of ht hP hD [0, 1] (by decide) rfl⟩, hS.F ht⟩) hS.2.2 dX7_nodeAt_8
def wo_k_M_hasAt : List Cond := [.fieldLink RX7 76 "ReplicaChainModel" "all" "[I", .methodLink RX7 310 yX7_nodeAt, .instanceMethod yX7_nodeAt, .selects RX7 yX7_nodeAt yX7_nodeAt, .initialized RX7]
def wq_k_M_hasAt : List Cond := .code yX7_hasAt cX7_hasAt 2 (some .int) :: (wo_k_M_hasAt ++ (wq_k_M_nodeAt ++ (wsX70 ++ [])))
theorem gd_k_M_hasAt : Gd wq_k_M_hasAt := gd_c (gd_a (gd_o (by decide +kernel)) (gd_a gd_k_M_nodeAt (gd_a gd_u gd_0)))
abbrev wc_k_M_hasAt (cyB cyI cyJ cyZ cyO : ClassId) (hM : Nat) (md : Nat → Nat) (m_all : Nat → Int32) (m_taped : Int32) (m_size : Int32) (m_faultKind : Int32) (m_faultPlace : Int32) (m_at : Int32) (m_end : Int32) (m_token : Int32) (m_number : Int32) (m_bank : Int32) (m_rb : Int32) (m_codes : Int32) (m_within : Int32) (m_piled : Int32) (m_unitsInRule : Int32) (m_askFrom : Int32) (m_askTo : Int32) (m_askWrite : Int32) (m_askUnder : Int32) (m_askBack : Int32) (m_thoughtSlow : Int32) (m_came : Int32) (m_acts : Int32) (m_undone : Int32) (m_laid : Int32) (m_seens : Int32) (m_time : Int32) (m_name : Int64) (x1 : Int32) : va_W := [(hM, .inr (7, [.ref (md 0), .ref (md 1), .int m_taped, .int m_size, .int m_faultKind, .int m_faultPlace, .int m_at, .int m_end, .int m_token, .int m_number, .long m_name, .ref (md 11), .ref (md 12), .ref (md 13), .ref (md 14), .ref (md 15), .ref (md 16), .ref (md 17), .ref (md 18), .ref (md 19), .ref (md 20), .ref (md 21), .ref (md 22), .ref (md 23), .ref (md 24), .ref (md 25), .ref (md 26), .ref (md 27), .ref (md 28), .int m_bank, .int m_rb, .int m_codes, .int m_within, .int m_piled, .int m_unitsInRule, .int m_askFrom, .int m_askTo, .int m_askWrite, .int m_askUnder, .int m_askBack, .ref (md 40), .ref (md 41), .int m_thoughtSlow, .int m_came, .ref (md 44), .int m_acts, .int m_undone, .ref (md 47), .ref (md 48), .int m_laid, .ref (md 50), .ref (md 51), .ref (md 52), .ref (md 53), .ref (md 54), .int m_seens, .int m_time, .ref (md 57), .ref (md 58)])), (md 40, .inl (cyI, 520, .inl m_all))]
set_option maxHeartbeats 4000000 in
set_option maxRecDepth 100000 in
theorem k_M_hasAt (l : Launch) (dC : Nat → ClassId) (dI : Nat → Nat → Nat) (cyB cyI cyJ cyZ cyO : ClassId) (hM : Nat) (md : Nat → Nat) (m_all : Nat → Int32) (m_taped : Int32) (m_size : Int32) (m_faultKind : Int32) (m_faultPlace : Int32) (m_at : Int32) (m_end : Int32) (m_token : Int32) (m_number : Int32) (m_bank : Int32) (m_rb : Int32) (m_codes : Int32) (m_within : Int32) (m_piled : Int32) (m_unitsInRule : Int32) (m_askFrom : Int32) (m_askTo : Int32) (m_askWrite : Int32) (m_askUnder : Int32) (m_askBack : Int32) (m_thoughtSlow : Int32) (m_came : Int32) (m_acts : Int32) (m_undone : Int32) (m_laid : Int32) (m_seens : Int32) (m_time : Int32) (m_name : Int64) (x1 : Int32) (sz : Nat) (l_m_taped : 0 ≤ m_taped.toInt) (u_m_taped : m_taped.toInt ≤ 1600) (l_m_size : 0 ≤ m_size.toInt) (u_m_size : m_size.toInt ≤ 1600) (l_m_bank : 0 ≤ m_bank.toInt) (u_m_bank : m_bank.toInt ≤ 1) (l_m_rb : 0 ≤ m_rb.toInt) (u_m_rb : m_rb.toInt ≤ 1) (l_m_acts : 0 ≤ m_acts.toInt) (u_m_acts : m_acts.toInt ≤ 40) (l_m_undone : 0 ≤ m_undone.toInt) (u_m_undone : m_undone.toInt ≤ 40) (l_m_laid : 0 ≤ m_laid.toInt) (u_m_laid : m_laid.toInt ≤ 6) (l_m_seens : 0 ≤ m_seens.toInt) (u_m_seens : m_seens.toInt ≤ 30) (l_m_time : 0 ≤ m_time.toInt) (u_m_time : m_time.toInt ≤ 100000) (i0_m_all : In2 m_all 0 1 (0) (6)) (i1_m_all : In2 m_all 1 7 (0) (7)) (i2_m_all : In2 m_all 7 15 (0) (40)) (i3_m_all : In2 m_all 15 23 (0) (40)) (i4_m_all : In2 m_all 105 106 (-1) (7)) (i5_m_all : In2 m_all 109 110 (0) (999)) (l_x1 : 0 ≤ x1.toInt) (u_x1 : x1.toInt ≤ 5) : Met l yX7_hasAt wq_k_M_hasAt ({ frames := 1, cells := 0, slots := 0, locals := 21 }) (va_Pc [.ref hM, .int x1] (cB (dC, dI) (kT cyB cyI cyJ cyZ cyO) (wc_k_M_hasAt cyB cyI cyJ cyZ cyO hM md m_all m_taped m_size m_faultKind m_faultPlace m_at m_end m_token m_number m_bank m_rb m_codes m_within m_piled m_unitsInRule m_askFrom m_askTo m_askWrite m_askUnder m_askBack m_thoughtSlow m_came m_acts m_undone m_laid m_seens m_time m_name x1) sz)) (va_Qi (fun (r : Int32) (u : Unit) => (0 ≤ r.toInt) ∧ (r.toInt ≤ 40) ∧ (r = mh m_all (mr m_all x1.toNatClampNeg).toNatClampNeg)) (fun (u : Unit) t => cE (dC, dI) (va_A (wc_k_M_hasAt cyB cyI cyJ cyZ cyO hM md m_all m_taped m_size m_faultKind m_faultPlace m_at m_end m_token m_number m_bank m_rb m_codes m_within m_piled m_unitsInRule m_askFrom m_askTo m_askWrite m_askUnder m_askBack m_thoughtSlow m_came m_acts m_undone m_laid m_seens m_time m_name x1) sz) ([(hM, .inr (7, [.ref (md 0), .ref (md 1), .int m_taped, .int m_size, .int m_faultKind, .int m_faultPlace, .int m_at, .int m_end, .int m_token, .int m_number, .long m_name, .ref (md 11), .ref (md 12), .ref (md 13), .ref (md 14), .ref (md 15), .ref (md 16), .ref (md 17), .ref (md 18), .ref (md 19), .ref (md 20), .ref (md 21), .ref (md 22), .ref (md 23), .ref (md 24), .ref (md 25), .ref (md 26), .ref (md 27), .ref (md 28), .int m_bank, .int m_rb, .int m_codes, .int m_within, .int m_piled, .int m_unitsInRule, .int m_askFrom, .int m_askTo, .int m_askWrite, .int m_askUnder, .int m_askBack, .ref (md 40), .ref (md 41), .int m_thoughtSlow, .int m_came, .ref (md 44), .int m_acts, .int m_undone, .ref (md 47), .ref (md 48), .int m_laid, .ref (md 50), .ref (md 51), .ref (md 52), .ref (md 53), .ref (md 54), .int m_seens, .int m_time, .ref (md 57), .ref (md 58)])), (md 40, .inl (cyI, 520, .inl m_all))]) t.heap) (va_A (wc_k_M_hasAt cyB cyI cyJ cyZ cyO hM md m_all m_taped m_size m_faultKind m_faultPlace m_at m_end m_token m_number m_bank m_rb m_codes m_within m_piled m_unitsInRule m_askFrom m_askTo m_askWrite m_askUnder m_askBack m_thoughtSlow m_came m_acts m_undone m_laid m_seens m_time m_name x1) sz)) 0 0 (va_A (wc_k_M_hasAt cyB cyI cyJ cyZ cyO hM md m_all m_taped m_size m_faultKind m_faultPlace m_at m_end m_token m_number m_bank m_rb m_codes m_within m_piled m_unitsInRule m_askFrom m_askTo m_askWrite m_askUnder m_askBack m_thoughtSlow m_came m_acts m_undone m_laid m_seens m_time m_name x1) sz) := by
  refine Met.ofW (cc := cX7_hasAt) (maxL := 2) (ret := (some .int)) (by decide) rfl ?_
  intro p e s m args below meth c s₁ B hml hv
  obtain ⟨rfl, hsz, hP, hKN, hD0⟩ := hv
  have hx := B.exec
  have hb := B.bytes
  have hr := B.returns
  have hts := atoms_spec (ws := wq_k_M_hasAt) B.pre
  have hown : s.vm.findClass RX7 = some m.cls := findClass_of_methodNamed B.named
  have hlocks := B.notSynchronized
  have hK := hKN.1
  have hfix : CallFix p m c cX7_hasAt 2 s [.ref hM, .int x1].toArray wq_k_M_hasAt RX7 := ⟨hx, hb, hml, hown, hts⟩
  have hi7 : ∀ w ∈ wsX70, w ∈ wq_k_M_hasAt := (sb_c (sb_r sb_l))
  subst hsz
  have hD := hD0.self (sz := s.heap.size)
  generalize hAe : va_A (wc_k_M_hasAt cyB cyI cyJ cyZ cyO hM md m_all m_taped m_size m_faultKind m_faultPlace m_at m_end m_token m_number m_bank m_rb m_codes m_within m_piled m_unitsInRule m_askFrom m_askTo m_askWrite m_askUnder m_askBack m_thoughtSlow m_came m_acts m_undone m_laid m_seens m_time m_name x1) s.heap.size = A at hD ⊢
  have hA : ∀ q : Nat, s.heap.size ≤ q → A q := fun q h => by rw [← hAe]; exact Or.inr h
  have hS : va_S A s.heap s.heap [] := va_S.rf
  have hl := lv_entry ([.ref hM, .int x1]) (n := 2) (Nat.le_of_ble_eq_true rfl)
  rw [lg_entry_eq]
  generalize (lg_sl ([.ref hM, .int x1]) ++ List.replicate (2 - (lg_sl ([.ref hM, .int x1])).length) Slot.unset).toArray = ls at hl ⊢
  have hl : lv_has ls 2 [(0, .ref hM), (1, .int x1)] := hl
  refine lv_aload_n hx hb dX7_hasAt_0 rfl (lv_at hl 0 rfl) ?_
  refine va_get (D := (dC, dI)) (ci := 7) (v := .ref (md 40)) (C := RX7) (T := TX7) (N := 59) hx hb hts hi7 hown hK hP 0 rfl rfl 40 (by decide) (hts _ (ow_m (k := 0) rfl)) (fun _ h9 => h9) rfl dX7_hasAt_1 ?_
  refine lv_bipush (v := 7) hx hb dX7_hasAt_4 (by decide) ?_
  refine lv_aload_n hx hb dX7_hasAt_6 rfl (lv_at hl 0 rfl) ?_
  refine lv_iload_n hx hb dX7_hasAt_7 rfl (lv_at hl 1 rfl) ?_
  refine gf_i (wr := []) (va_runV (As := [.int x1]) (rest := [.int 7, .ref (md 40)]) hfix (k_M_nodeAt l dC dI cyB cyI cyJ cyZ cyO hM md m_all m_taped m_size m_faultKind m_faultPlace m_at m_end m_token m_number m_bank m_rb m_codes m_within m_piled m_unitsInRule m_askFrom m_askTo m_askWrite m_askUnder m_askBack m_thoughtSlow m_came m_acts m_undone m_laid m_seens m_time m_name x1 _ (by first | omega | assumption) (by first | omega | assumption) (by first | omega | assumption) (by first | omega | assumption) (by first | omega | assumption) (by first | omega | assumption) (by first | omega | assumption) (by first | omega | assumption) (by first | omega | assumption) (by first | omega | assumption) (by first | omega | assumption) (by first | omega | assumption) (by first | omega | assumption) (by first | omega | assumption) (by first | omega | assumption) (by first | omega | assumption) (by first | omega | assumption) (by first | omega | assumption) i0_m_all i1_m_all i2_m_all i3_m_all i4_m_all i5_m_all (by first | omega | assumption) (by first | omega | assumption)) (cwV 1 hts (gi_V (ow_m (k := 1) rfl) (ow_m (k := 2) rfl) (ow_m (k := 3) rfl) (ow_m (k := 4) rfl) (sb_c sb_l) gd_k_M_nodeAt) rfl rfl rfl (by decide +kernel) ⟨Nat.le_of_ble_eq_true rfl, Nat.le_of_ble_eq_true rfl⟩) (g_preV hKN hP hD [0, 1] rfl (by decide) 0 7 rfl rfl) rfl rfl hl.1 rfl (lv_room (Nat.le_of_ble_eq_true rfl)) dX7_hasAt_8 ⟨Nat.le_of_ble_eq_true rfl, Nat.le_of_ble_eq_true rfl⟩) hP hD hS hA [0, 1] [] rfl rfl (by decide) (by decide) (fun r13640 u13641 H locs qu13641 hP hD hS => ?_)
  obtain ⟨b13642, b13643, b13644⟩ := qu13641
  have hP : va_P (dC, dI) vwCl [(hM, .inr (7, [.ref (md 0), .ref (md 1), .int m_taped, .int m_size, .int m_faultKind, .int m_faultPlace, .int m_at, .int m_end, .int m_token, .int m_number, .long m_name, .ref (md 11), .ref (md 12), .ref (md 13), .ref (md 14), .ref (md 15), .ref (md 16), .ref (md 17), .ref (md 18), .ref (md 19), .ref (md 20), .ref (md 21), .ref (md 22), .ref (md 23), .ref (md 24), .ref (md 25), .ref (md 26), .ref (md 27), .ref (md 28), .int m_bank, .int m_rb, .int m_codes, .int m_within, .int m_piled, .int m_unitsInRule, .int m_askFrom, .int m_askTo, .int m_askWrite, .int m_askUnder, .int m_askBack, .ref (md 40), .ref (md 41), .int m_thoughtSlow, .int m_came, .ref (md 44), .int m_acts, .int m_undone, .ref (md 47), .ref (md 48), .int m_laid, .ref (md 50), .ref (md 51), .ref (md 52), .ref (md 53), .ref (md 54), .int m_seens, .int m_time, .ref (md 57), .ref (md 58)])), (md 40, .inl (cyI, 520, .inl m_all))] H := hP
  have hD : va_D A [(hM, .inr (7, [.ref (md 0), .ref (md 1), .int m_taped, .int m_size, .int m_faultKind, .int m_faultPlace, .int m_at, .int m_end, .int m_token, .int m_number, .long m_name, .ref (md 11), .ref (md 12), .ref (md 13), .ref (md 14), .ref (md 15), .ref (md 16), .ref (md 17), .ref (md 18), .ref (md 19), .ref (md 20), .ref (md 21), .ref (md 22), .ref (md 23), .ref (md 24), .ref (md 25), .ref (md 26), .ref (md 27), .ref (md 28), .int m_bank, .int m_rb, .int m_codes, .int m_within, .int m_piled, .int m_unitsInRule, .int m_askFrom, .int m_askTo, .int m_askWrite, .int m_askUnder, .int m_askBack, .ref (md 40), .ref (md 41), .int m_thoughtSlow, .int m_came, .ref (md 44), .int m_acts, .int m_undone, .ref (md 47), .ref (md 48), .int m_laid, .ref (md 50), .ref (md 51), .ref (md 52), .ref (md 53), .ref (md 54), .int m_seens, .int m_time, .ref (md 57), .ref (md 58)])), (md 40, .inl (cyI, 520, .inl m_all))] := hD
  refine lv_iadd hx hb dX7_hasAt_11 ?_
  refine lv_topi (fun z13645 ez13645 => ?_)
  have tz13645 := ti_add (a := 7) (b := r13640.toInt) ez13645 (by decide) rfl (by omega) (by omega)
  refine va_iald hx hb hK hP 1 1 rfl rfl (vp_i rfl (by omega) (by omega)) dX7_hasAt_12 ?_
  refine lv_topi (fun z13646 ez13646 => ?_)
  have tz13646 := i2_m_all.at (x := z13645.toInt) ez13646 rfl (by omega) (by omega)
  have hq9 : z13646 = mh m_all (mr m_all x1.toNatClampNeg).toNatClampNeg := by rw [ez13646, nn_add (k := 7) (i := r13640) (by omega) (by omega), ← b13644]
  have w13647 : 0 ≤ z13646.toInt := by first | omega | assumption | rfl
  have w13648 : z13646.toInt ≤ 40 := by first | omega | assumption | rfl
  have w13649 : z13646 = mh m_all (mr m_all x1.toNatClampNeg).toNatClampNeg := by first | omega | assumption | rfl
  exact W.iret (v := z13646) hx hb hr (fun t ht hW => ⟨⟨z13646, (), rfl, ⟨w13647, w13648, w13649⟩, cE.of ht hP hD [0, 1] (by decide) rfl⟩, hS.F ht⟩) hS.2.2 dX7_hasAt_13
def wo_k_M_cleanAt : List Cond := [.fieldLink RX7 76 "ReplicaChainModel" "all" "[I", .methodLink RX7 310 yX7_nodeAt, .instanceMethod yX7_nodeAt, .selects RX7 yX7_nodeAt yX7_nodeAt, .initialized RX7]
def wq_k_M_cleanAt : List Cond := .code yX7_cleanAt cX7_cleanAt 2 (some .int) :: (wo_k_M_cleanAt ++ (wq_k_M_nodeAt ++ (wsX70 ++ [])))
theorem gd_k_M_cleanAt : Gd wq_k_M_cleanAt := gd_c (gd_a (gd_o (by decide +kernel)) (gd_a gd_k_M_nodeAt (gd_a gd_u gd_0)))
abbrev wc_k_M_cleanAt (cyB cyI cyJ cyZ cyO : ClassId) (hM : Nat) (md : Nat → Nat) (m_all : Nat → Int32) (m_taped : Int32) (m_size : Int32) (m_faultKind : Int32) (m_faultPlace : Int32) (m_at : Int32) (m_end : Int32) (m_token : Int32) (m_number : Int32) (m_bank : Int32) (m_rb : Int32) (m_codes : Int32) (m_within : Int32) (m_piled : Int32) (m_unitsInRule : Int32) (m_askFrom : Int32) (m_askTo : Int32) (m_askWrite : Int32) (m_askUnder : Int32) (m_askBack : Int32) (m_thoughtSlow : Int32) (m_came : Int32) (m_acts : Int32) (m_undone : Int32) (m_laid : Int32) (m_seens : Int32) (m_time : Int32) (m_name : Int64) (x1 : Int32) : va_W := [(hM, .inr (7, [.ref (md 0), .ref (md 1), .int m_taped, .int m_size, .int m_faultKind, .int m_faultPlace, .int m_at, .int m_end, .int m_token, .int m_number, .long m_name, .ref (md 11), .ref (md 12), .ref (md 13), .ref (md 14), .ref (md 15), .ref (md 16), .ref (md 17), .ref (md 18), .ref (md 19), .ref (md 20), .ref (md 21), .ref (md 22), .ref (md 23), .ref (md 24), .ref (md 25), .ref (md 26), .ref (md 27), .ref (md 28), .int m_bank, .int m_rb, .int m_codes, .int m_within, .int m_piled, .int m_unitsInRule, .int m_askFrom, .int m_askTo, .int m_askWrite, .int m_askUnder, .int m_askBack, .ref (md 40), .ref (md 41), .int m_thoughtSlow, .int m_came, .ref (md 44), .int m_acts, .int m_undone, .ref (md 47), .ref (md 48), .int m_laid, .ref (md 50), .ref (md 51), .ref (md 52), .ref (md 53), .ref (md 54), .int m_seens, .int m_time, .ref (md 57), .ref (md 58)])), (md 40, .inl (cyI, 520, .inl m_all))]
set_option maxHeartbeats 4000000 in
set_option maxRecDepth 100000 in
theorem k_M_cleanAt (l : Launch) (dC : Nat → ClassId) (dI : Nat → Nat → Nat) (cyB cyI cyJ cyZ cyO : ClassId) (hM : Nat) (md : Nat → Nat) (m_all : Nat → Int32) (m_taped : Int32) (m_size : Int32) (m_faultKind : Int32) (m_faultPlace : Int32) (m_at : Int32) (m_end : Int32) (m_token : Int32) (m_number : Int32) (m_bank : Int32) (m_rb : Int32) (m_codes : Int32) (m_within : Int32) (m_piled : Int32) (m_unitsInRule : Int32) (m_askFrom : Int32) (m_askTo : Int32) (m_askWrite : Int32) (m_askUnder : Int32) (m_askBack : Int32) (m_thoughtSlow : Int32) (m_came : Int32) (m_acts : Int32) (m_undone : Int32) (m_laid : Int32) (m_seens : Int32) (m_time : Int32) (m_name : Int64) (x1 : Int32) (sz : Nat) (l_m_taped : 0 ≤ m_taped.toInt) (u_m_taped : m_taped.toInt ≤ 1600) (l_m_size : 0 ≤ m_size.toInt) (u_m_size : m_size.toInt ≤ 1600) (l_m_bank : 0 ≤ m_bank.toInt) (u_m_bank : m_bank.toInt ≤ 1) (l_m_rb : 0 ≤ m_rb.toInt) (u_m_rb : m_rb.toInt ≤ 1) (l_m_acts : 0 ≤ m_acts.toInt) (u_m_acts : m_acts.toInt ≤ 40) (l_m_undone : 0 ≤ m_undone.toInt) (u_m_undone : m_undone.toInt ≤ 40) (l_m_laid : 0 ≤ m_laid.toInt) (u_m_laid : m_laid.toInt ≤ 6) (l_m_seens : 0 ≤ m_seens.toInt) (u_m_seens : m_seens.toInt ≤ 30) (l_m_time : 0 ≤ m_time.toInt) (u_m_time : m_time.toInt ≤ 100000) (i0_m_all : In2 m_all 0 1 (0) (6)) (i1_m_all : In2 m_all 1 7 (0) (7)) (i2_m_all : In2 m_all 7 15 (0) (40)) (i3_m_all : In2 m_all 15 23 (0) (40)) (i4_m_all : In2 m_all 105 106 (-1) (7)) (i5_m_all : In2 m_all 109 110 (0) (999)) (l_x1 : 0 ≤ x1.toInt) (u_x1 : x1.toInt ≤ 5) : Met l yX7_cleanAt wq_k_M_cleanAt ({ frames := 1, cells := 0, slots := 0, locals := 21 }) (va_Pc [.ref hM, .int x1] (cB (dC, dI) (kT cyB cyI cyJ cyZ cyO) (wc_k_M_cleanAt cyB cyI cyJ cyZ cyO hM md m_all m_taped m_size m_faultKind m_faultPlace m_at m_end m_token m_number m_bank m_rb m_codes m_within m_piled m_unitsInRule m_askFrom m_askTo m_askWrite m_askUnder m_askBack m_thoughtSlow m_came m_acts m_undone m_laid m_seens m_time m_name x1) sz)) (va_Qi (fun (r : Int32) (u : Unit) => (0 ≤ r.toInt) ∧ (r.toInt ≤ 40) ∧ (r = mc m_all (mr m_all x1.toNatClampNeg).toNatClampNeg)) (fun (u : Unit) t => cE (dC, dI) (va_A (wc_k_M_cleanAt cyB cyI cyJ cyZ cyO hM md m_all m_taped m_size m_faultKind m_faultPlace m_at m_end m_token m_number m_bank m_rb m_codes m_within m_piled m_unitsInRule m_askFrom m_askTo m_askWrite m_askUnder m_askBack m_thoughtSlow m_came m_acts m_undone m_laid m_seens m_time m_name x1) sz) ([(hM, .inr (7, [.ref (md 0), .ref (md 1), .int m_taped, .int m_size, .int m_faultKind, .int m_faultPlace, .int m_at, .int m_end, .int m_token, .int m_number, .long m_name, .ref (md 11), .ref (md 12), .ref (md 13), .ref (md 14), .ref (md 15), .ref (md 16), .ref (md 17), .ref (md 18), .ref (md 19), .ref (md 20), .ref (md 21), .ref (md 22), .ref (md 23), .ref (md 24), .ref (md 25), .ref (md 26), .ref (md 27), .ref (md 28), .int m_bank, .int m_rb, .int m_codes, .int m_within, .int m_piled, .int m_unitsInRule, .int m_askFrom, .int m_askTo, .int m_askWrite, .int m_askUnder, .int m_askBack, .ref (md 40), .ref (md 41), .int m_thoughtSlow, .int m_came, .ref (md 44), .int m_acts, .int m_undone, .ref (md 47), .ref (md 48), .int m_laid, .ref (md 50), .ref (md 51), .ref (md 52), .ref (md 53), .ref (md 54), .int m_seens, .int m_time, .ref (md 57), .ref (md 58)])), (md 40, .inl (cyI, 520, .inl m_all))]) t.heap) (va_A (wc_k_M_cleanAt cyB cyI cyJ cyZ cyO hM md m_all m_taped m_size m_faultKind m_faultPlace m_at m_end m_token m_number m_bank m_rb m_codes m_within m_piled m_unitsInRule m_askFrom m_askTo m_askWrite m_askUnder m_askBack m_thoughtSlow m_came m_acts m_undone m_laid m_seens m_time m_name x1) sz)) 0 0 (va_A (wc_k_M_cleanAt cyB cyI cyJ cyZ cyO hM md m_all m_taped m_size m_faultKind m_faultPlace m_at m_end m_token m_number m_bank m_rb m_codes m_within m_piled m_unitsInRule m_askFrom m_askTo m_askWrite m_askUnder m_askBack m_thoughtSlow m_came m_acts m_undone m_laid m_seens m_time m_name x1) sz) := by
  refine Met.ofW (cc := cX7_cleanAt) (maxL := 2) (ret := (some .int)) (by decide) rfl ?_
  intro p e s m args below meth c s₁ B hml hv
  obtain ⟨rfl, hsz, hP, hKN, hD0⟩ := hv
  have hx := B.exec
  have hb := B.bytes
  have hr := B.returns
  have hts := atoms_spec (ws := wq_k_M_cleanAt) B.pre
  have hown : s.vm.findClass RX7 = some m.cls := findClass_of_methodNamed B.named
  have hlocks := B.notSynchronized
  have hK := hKN.1
  have hfix : CallFix p m c cX7_cleanAt 2 s [.ref hM, .int x1].toArray wq_k_M_cleanAt RX7 := ⟨hx, hb, hml, hown, hts⟩
  have hi7 : ∀ w ∈ wsX70, w ∈ wq_k_M_cleanAt := (sb_c (sb_r sb_l))
  subst hsz
  have hD := hD0.self (sz := s.heap.size)
  generalize hAe : va_A (wc_k_M_cleanAt cyB cyI cyJ cyZ cyO hM md m_all m_taped m_size m_faultKind m_faultPlace m_at m_end m_token m_number m_bank m_rb m_codes m_within m_piled m_unitsInRule m_askFrom m_askTo m_askWrite m_askUnder m_askBack m_thoughtSlow m_came m_acts m_undone m_laid m_seens m_time m_name x1) s.heap.size = A at hD ⊢
  have hA : ∀ q : Nat, s.heap.size ≤ q → A q := fun q h => by rw [← hAe]; exact Or.inr h
  have hS : va_S A s.heap s.heap [] := va_S.rf
  have hl := lv_entry ([.ref hM, .int x1]) (n := 2) (Nat.le_of_ble_eq_true rfl)
  rw [lg_entry_eq]
  generalize (lg_sl ([.ref hM, .int x1]) ++ List.replicate (2 - (lg_sl ([.ref hM, .int x1])).length) Slot.unset).toArray = ls at hl ⊢
  have hl : lv_has ls 2 [(0, .ref hM), (1, .int x1)] := hl
  refine lv_aload_n hx hb dX7_cleanAt_0 rfl (lv_at hl 0 rfl) ?_
  refine va_get (D := (dC, dI)) (ci := 7) (v := .ref (md 40)) (C := RX7) (T := TX7) (N := 59) hx hb hts hi7 hown hK hP 0 rfl rfl 40 (by decide) (hts _ (ow_m (k := 0) rfl)) (fun _ h9 => h9) rfl dX7_cleanAt_1 ?_
  refine lv_bipush (v := 15) hx hb dX7_cleanAt_4 (by decide) ?_
  refine lv_aload_n hx hb dX7_cleanAt_6 rfl (lv_at hl 0 rfl) ?_
  refine lv_iload_n hx hb dX7_cleanAt_7 rfl (lv_at hl 1 rfl) ?_
  refine gf_i (wr := []) (va_runV (As := [.int x1]) (rest := [.int 15, .ref (md 40)]) hfix (k_M_nodeAt l dC dI cyB cyI cyJ cyZ cyO hM md m_all m_taped m_size m_faultKind m_faultPlace m_at m_end m_token m_number m_bank m_rb m_codes m_within m_piled m_unitsInRule m_askFrom m_askTo m_askWrite m_askUnder m_askBack m_thoughtSlow m_came m_acts m_undone m_laid m_seens m_time m_name x1 _ (by first | omega | assumption) (by first | omega | assumption) (by first | omega | assumption) (by first | omega | assumption) (by first | omega | assumption) (by first | omega | assumption) (by first | omega | assumption) (by first | omega | assumption) (by first | omega | assumption) (by first | omega | assumption) (by first | omega | assumption) (by first | omega | assumption) (by first | omega | assumption) (by first | omega | assumption) (by first | omega | assumption) (by first | omega | assumption) (by first | omega | assumption) (by first | omega | assumption) i0_m_all i1_m_all i2_m_all i3_m_all i4_m_all i5_m_all (by first | omega | assumption) (by first | omega | assumption)) (cwV 1 hts (gi_V (ow_m (k := 1) rfl) (ow_m (k := 2) rfl) (ow_m (k := 3) rfl) (ow_m (k := 4) rfl) (sb_c sb_l) gd_k_M_nodeAt) rfl rfl rfl (by decide +kernel) ⟨Nat.le_of_ble_eq_true rfl, Nat.le_of_ble_eq_true rfl⟩) (g_preV hKN hP hD [0, 1] rfl (by decide) 0 7 rfl rfl) rfl rfl hl.1 rfl (lv_room (Nat.le_of_ble_eq_true rfl)) dX7_cleanAt_8 ⟨Nat.le_of_ble_eq_true rfl, Nat.le_of_ble_eq_true rfl⟩) hP hD hS hA [0, 1] [] rfl rfl (by decide) (by decide) (fun r13664 u13665 H locs qu13665 hP hD hS => ?_)
  obtain ⟨b13666, b13667, b13668⟩ := qu13665
  have hP : va_P (dC, dI) vwCl [(hM, .inr (7, [.ref (md 0), .ref (md 1), .int m_taped, .int m_size, .int m_faultKind, .int m_faultPlace, .int m_at, .int m_end, .int m_token, .int m_number, .long m_name, .ref (md 11), .ref (md 12), .ref (md 13), .ref (md 14), .ref (md 15), .ref (md 16), .ref (md 17), .ref (md 18), .ref (md 19), .ref (md 20), .ref (md 21), .ref (md 22), .ref (md 23), .ref (md 24), .ref (md 25), .ref (md 26), .ref (md 27), .ref (md 28), .int m_bank, .int m_rb, .int m_codes, .int m_within, .int m_piled, .int m_unitsInRule, .int m_askFrom, .int m_askTo, .int m_askWrite, .int m_askUnder, .int m_askBack, .ref (md 40), .ref (md 41), .int m_thoughtSlow, .int m_came, .ref (md 44), .int m_acts, .int m_undone, .ref (md 47), .ref (md 48), .int m_laid, .ref (md 50), .ref (md 51), .ref (md 52), .ref (md 53), .ref (md 54), .int m_seens, .int m_time, .ref (md 57), .ref (md 58)])), (md 40, .inl (cyI, 520, .inl m_all))] H := hP
  have hD : va_D A [(hM, .inr (7, [.ref (md 0), .ref (md 1), .int m_taped, .int m_size, .int m_faultKind, .int m_faultPlace, .int m_at, .int m_end, .int m_token, .int m_number, .long m_name, .ref (md 11), .ref (md 12), .ref (md 13), .ref (md 14), .ref (md 15), .ref (md 16), .ref (md 17), .ref (md 18), .ref (md 19), .ref (md 20), .ref (md 21), .ref (md 22), .ref (md 23), .ref (md 24), .ref (md 25), .ref (md 26), .ref (md 27), .ref (md 28), .int m_bank, .int m_rb, .int m_codes, .int m_within, .int m_piled, .int m_unitsInRule, .int m_askFrom, .int m_askTo, .int m_askWrite, .int m_askUnder, .int m_askBack, .ref (md 40), .ref (md 41), .int m_thoughtSlow, .int m_came, .ref (md 44), .int m_acts, .int m_undone, .ref (md 47), .ref (md 48), .int m_laid, .ref (md 50), .ref (md 51), .ref (md 52), .ref (md 53), .ref (md 54), .int m_seens, .int m_time, .ref (md 57), .ref (md 58)])), (md 40, .inl (cyI, 520, .inl m_all))] := hD
  refine lv_iadd hx hb dX7_cleanAt_11 ?_
  refine lv_topi (fun z13669 ez13669 => ?_)
  have tz13669 := ti_add (a := 15) (b := r13664.toInt) ez13669 (by decide) rfl (by omega) (by omega)
  refine va_iald hx hb hK hP 1 1 rfl rfl (vp_i rfl (by omega) (by omega)) dX7_cleanAt_12 ?_
  refine lv_topi (fun z13670 ez13670 => ?_)
  have tz13670 := i3_m_all.at (x := z13669.toInt) ez13670 rfl (by omega) (by omega)
  have hq9 : z13670 = mc m_all (mr m_all x1.toNatClampNeg).toNatClampNeg := by rw [ez13670, nn_add (k := 15) (i := r13664) (by omega) (by omega), ← b13668]
  have w13671 : 0 ≤ z13670.toInt := by first | omega | assumption | rfl
  have w13672 : z13670.toInt ≤ 40 := by first | omega | assumption | rfl
  have w13673 : z13670 = mc m_all (mr m_all x1.toNatClampNeg).toNatClampNeg := by first | omega | assumption | rfl
  exact W.iret (v := z13670) hx hb hr (fun t ht hW => ⟨⟨z13670, (), rfl, ⟨w13671, w13672, w13673⟩, cE.of ht hP hD [0, 1] (by decide) rfl⟩, hS.F ht⟩) hS.2.2 dX7_cleanAt_13
def wo_k_M_placeOf : List Cond := [.methodLink RX7 313 yX7_lots, .instanceMethod yX7_lots, .selects RX7 yX7_lots yX7_lots, .initialized RX7, .methodLink RX7 310 yX7_nodeAt, .instanceMethod yX7_nodeAt, .selects RX7 yX7_nodeAt yX7_nodeAt]
def wq_k_M_placeOf : List Cond := .code yX7_placeOf cX7_placeOf 3 (some .int) :: (wo_k_M_placeOf ++ (wq_k_M_lots ++ (wq_k_M_nodeAt ++ [])))
theorem gd_k_M_placeOf : Gd wq_k_M_placeOf := gd_c (gd_a (gd_o (by decide +kernel)) (gd_a gd_k_M_lots (gd_a gd_k_M_nodeAt gd_0)))
abbrev wc_k_M_placeOf (cyB cyI cyJ cyZ cyO : ClassId) (hM : Nat) (md : Nat → Nat) (m_all : Nat → Int32) (m_taped : Int32) (m_size : Int32) (m_faultKind : Int32) (m_faultPlace : Int32) (m_at : Int32) (m_end : Int32) (m_token : Int32) (m_number : Int32) (m_bank : Int32) (m_rb : Int32) (m_codes : Int32) (m_within : Int32) (m_piled : Int32) (m_unitsInRule : Int32) (m_askFrom : Int32) (m_askTo : Int32) (m_askWrite : Int32) (m_askUnder : Int32) (m_askBack : Int32) (m_thoughtSlow : Int32) (m_came : Int32) (m_acts : Int32) (m_undone : Int32) (m_laid : Int32) (m_seens : Int32) (m_time : Int32) (m_name : Int64) (x1 : Int32) : va_W := [(hM, .inr (7, [.ref (md 0), .ref (md 1), .int m_taped, .int m_size, .int m_faultKind, .int m_faultPlace, .int m_at, .int m_end, .int m_token, .int m_number, .long m_name, .ref (md 11), .ref (md 12), .ref (md 13), .ref (md 14), .ref (md 15), .ref (md 16), .ref (md 17), .ref (md 18), .ref (md 19), .ref (md 20), .ref (md 21), .ref (md 22), .ref (md 23), .ref (md 24), .ref (md 25), .ref (md 26), .ref (md 27), .ref (md 28), .int m_bank, .int m_rb, .int m_codes, .int m_within, .int m_piled, .int m_unitsInRule, .int m_askFrom, .int m_askTo, .int m_askWrite, .int m_askUnder, .int m_askBack, .ref (md 40), .ref (md 41), .int m_thoughtSlow, .int m_came, .ref (md 44), .int m_acts, .int m_undone, .ref (md 47), .ref (md 48), .int m_laid, .ref (md 50), .ref (md 51), .ref (md 52), .ref (md 53), .ref (md 54), .int m_seens, .int m_time, .ref (md 57), .ref (md 58)])), (md 40, .inl (cyI, 520, .inl m_all))]
set_option maxHeartbeats 4000000 in
set_option maxRecDepth 100000 in
theorem k_M_placeOf (l : Launch) (dC : Nat → ClassId) (dI : Nat → Nat → Nat) (cyB cyI cyJ cyZ cyO : ClassId) (hM : Nat) (md : Nat → Nat) (m_all : Nat → Int32) (m_taped : Int32) (m_size : Int32) (m_faultKind : Int32) (m_faultPlace : Int32) (m_at : Int32) (m_end : Int32) (m_token : Int32) (m_number : Int32) (m_bank : Int32) (m_rb : Int32) (m_codes : Int32) (m_within : Int32) (m_piled : Int32) (m_unitsInRule : Int32) (m_askFrom : Int32) (m_askTo : Int32) (m_askWrite : Int32) (m_askUnder : Int32) (m_askBack : Int32) (m_thoughtSlow : Int32) (m_came : Int32) (m_acts : Int32) (m_undone : Int32) (m_laid : Int32) (m_seens : Int32) (m_time : Int32) (m_name : Int64) (x1 : Int32) (sz : Nat) (l_m_taped : 0 ≤ m_taped.toInt) (u_m_taped : m_taped.toInt ≤ 1600) (l_m_size : 0 ≤ m_size.toInt) (u_m_size : m_size.toInt ≤ 1600) (l_m_bank : 0 ≤ m_bank.toInt) (u_m_bank : m_bank.toInt ≤ 1) (l_m_rb : 0 ≤ m_rb.toInt) (u_m_rb : m_rb.toInt ≤ 1) (l_m_acts : 0 ≤ m_acts.toInt) (u_m_acts : m_acts.toInt ≤ 40) (l_m_undone : 0 ≤ m_undone.toInt) (u_m_undone : m_undone.toInt ≤ 40) (l_m_laid : 0 ≤ m_laid.toInt) (u_m_laid : m_laid.toInt ≤ 6) (l_m_seens : 0 ≤ m_seens.toInt) (u_m_seens : m_seens.toInt ≤ 30) (l_m_time : 0 ≤ m_time.toInt) (u_m_time : m_time.toInt ≤ 100000) (i0_m_all : In2 m_all 0 1 (0) (6)) (i1_m_all : In2 m_all 1 7 (0) (7)) (i2_m_all : In2 m_all 7 15 (0) (40)) (i3_m_all : In2 m_all 15 23 (0) (40)) (i4_m_all : In2 m_all 105 106 (-1) (7)) (i5_m_all : In2 m_all 109 110 (0) (999)) : Met l yX7_placeOf wq_k_M_placeOf ({ frames := 1, cells := 0, slots := 0, locals := 21 }) (va_Pc [.ref hM, .int x1] (cB (dC, dI) (kT cyB cyI cyJ cyZ cyO) (wc_k_M_placeOf cyB cyI cyJ cyZ cyO hM md m_all m_taped m_size m_faultKind m_faultPlace m_at m_end m_token m_number m_bank m_rb m_codes m_within m_piled m_unitsInRule m_askFrom m_askTo m_askWrite m_askUnder m_askBack m_thoughtSlow m_came m_acts m_undone m_laid m_seens m_time m_name x1) sz)) (va_Qi (fun (r : Int32) (u : Unit) => (-1 ≤ r.toInt) ∧ (r.toInt ≤ 5) ∧ (r.toInt < (m_all 0).toInt)) (fun (u : Unit) t => cE (dC, dI) (va_A (wc_k_M_placeOf cyB cyI cyJ cyZ cyO hM md m_all m_taped m_size m_faultKind m_faultPlace m_at m_end m_token m_number m_bank m_rb m_codes m_within m_piled m_unitsInRule m_askFrom m_askTo m_askWrite m_askUnder m_askBack m_thoughtSlow m_came m_acts m_undone m_laid m_seens m_time m_name x1) sz) ([(hM, .inr (7, [.ref (md 0), .ref (md 1), .int m_taped, .int m_size, .int m_faultKind, .int m_faultPlace, .int m_at, .int m_end, .int m_token, .int m_number, .long m_name, .ref (md 11), .ref (md 12), .ref (md 13), .ref (md 14), .ref (md 15), .ref (md 16), .ref (md 17), .ref (md 18), .ref (md 19), .ref (md 20), .ref (md 21), .ref (md 22), .ref (md 23), .ref (md 24), .ref (md 25), .ref (md 26), .ref (md 27), .ref (md 28), .int m_bank, .int m_rb, .int m_codes, .int m_within, .int m_piled, .int m_unitsInRule, .int m_askFrom, .int m_askTo, .int m_askWrite, .int m_askUnder, .int m_askBack, .ref (md 40), .ref (md 41), .int m_thoughtSlow, .int m_came, .ref (md 44), .int m_acts, .int m_undone, .ref (md 47), .ref (md 48), .int m_laid, .ref (md 50), .ref (md 51), .ref (md 52), .ref (md 53), .ref (md 54), .int m_seens, .int m_time, .ref (md 57), .ref (md 58)])), (md 40, .inl (cyI, 520, .inl m_all))]) t.heap) (va_A (wc_k_M_placeOf cyB cyI cyJ cyZ cyO hM md m_all m_taped m_size m_faultKind m_faultPlace m_at m_end m_token m_number m_bank m_rb m_codes m_within m_piled m_unitsInRule m_askFrom m_askTo m_askWrite m_askUnder m_askBack m_thoughtSlow m_came m_acts m_undone m_laid m_seens m_time m_name x1) sz)) 0 0 (va_A (wc_k_M_placeOf cyB cyI cyJ cyZ cyO hM md m_all m_taped m_size m_faultKind m_faultPlace m_at m_end m_token m_number m_bank m_rb m_codes m_within m_piled m_unitsInRule m_askFrom m_askTo m_askWrite m_askUnder m_askBack m_thoughtSlow m_came m_acts m_undone m_laid m_seens m_time m_name x1) sz) := by
  refine Met.ofW (cc := cX7_placeOf) (maxL := 3) (ret := (some .int)) (by decide) rfl ?_
  intro p e s m args below meth c s₁ B hml hv
  obtain ⟨rfl, hsz, hP, hKN, hD0⟩ := hv
  have hx := B.exec
  have hb := B.bytes
  have hr := B.returns
  have hts := atoms_spec (ws := wq_k_M_placeOf) B.pre
  have hown : s.vm.findClass RX7 = some m.cls := findClass_of_methodNamed B.named
  have hlocks := B.notSynchronized
  have hK := hKN.1
  have hfix : CallFix p m c cX7_placeOf 3 s [.ref hM, .int x1].toArray wq_k_M_placeOf RX7 := ⟨hx, hb, hml, hown, hts⟩
  subst hsz
  have hD := hD0.self (sz := s.heap.size)
  generalize hAe : va_A (wc_k_M_placeOf cyB cyI cyJ cyZ cyO hM md m_all m_taped m_size m_faultKind m_faultPlace m_at m_end m_token m_number m_bank m_rb m_codes m_within m_piled m_unitsInRule m_askFrom m_askTo m_askWrite m_askUnder m_askBack m_thoughtSlow m_came m_acts m_undone m_laid m_seens m_time m_name x1) s.heap.size = A at hD ⊢
  have hA : ∀ q : Nat, s.heap.size ≤ q → A q := fun q h => by rw [← hAe]; exact Or.inr h
  have hS : va_S A s.heap s.heap [] := va_S.rf
  have hl := lv_entry ([.ref hM, .int x1]) (n := 3) (Nat.le_of_ble_eq_true rfl)
  rw [lg_entry_eq]
  generalize (lg_sl ([.ref hM, .int x1]) ++ List.replicate (3 - (lg_sl ([.ref hM, .int x1])).length) Slot.unset).toArray = ls at hl ⊢
  have hl : lv_has ls 3 [(0, .ref hM), (1, .int x1)] := hl
  have ckm1 : (-1 : Int32).toInt = -1 := by decide
  have ck0 : (0 : Int32).toInt = 0 := by decide
  refine lv_iconst (v := 0) hx hb dX7_placeOf_0 (by decide) ?_
  refine lv_istore_n (lv' := [(2, .int 0), (0, .ref hM), (1, .int x1)]) hx hb dX7_placeOf_1 rfl hl (by decide) rfl (fun ls hl => ?_)
  have h00 := i0_m_all 0 (by decide) (by decide)
  refine w_gen (fun H locs ls hP hS hl => ?_) hP hS hl
  obtain ⟨v13932, hl2, hP2, hD2, b13933, b13934, b13935⟩ : ∃ (v13932 : Int32), lv_has ls 3 [(2, .int v13932), (0, .ref hM), (1, .int x1)] ∧ va_P (dC, dI) vwCl [(hM, .inr (7, [.ref (md 0), .ref (md 1), .int m_taped, .int m_size, .int m_faultKind, .int m_faultPlace, .int m_at, .int m_end, .int m_token, .int m_number, .long m_name, .ref (md 11), .ref (md 12), .ref (md 13), .ref (md 14), .ref (md 15), .ref (md 16), .ref (md 17), .ref (md 18), .ref (md 19), .ref (md 20), .ref (md 21), .ref (md 22), .ref (md 23), .ref (md 24), .ref (md 25), .ref (md 26), .ref (md 27), .ref (md 28), .int m_bank, .int m_rb, .int m_codes, .int m_within, .int m_piled, .int m_unitsInRule, .int m_askFrom, .int m_askTo, .int m_askWrite, .int m_askUnder, .int m_askBack, .ref (md 40), .ref (md 41), .int m_thoughtSlow, .int m_came, .ref (md 44), .int m_acts, .int m_undone, .ref (md 47), .ref (md 48), .int m_laid, .ref (md 50), .ref (md 51), .ref (md 52), .ref (md 53), .ref (md 54), .int m_seens, .int m_time, .ref (md 57), .ref (md 58)])), (md 40, .inl (cyI, 520, .inl m_all))] H ∧ va_D A [(hM, .inr (7, [.ref (md 0), .ref (md 1), .int m_taped, .int m_size, .int m_faultKind, .int m_faultPlace, .int m_at, .int m_end, .int m_token, .int m_number, .long m_name, .ref (md 11), .ref (md 12), .ref (md 13), .ref (md 14), .ref (md 15), .ref (md 16), .ref (md 17), .ref (md 18), .ref (md 19), .ref (md 20), .ref (md 21), .ref (md 22), .ref (md 23), .ref (md 24), .ref (md 25), .ref (md 26), .ref (md 27), .ref (md 28), .int m_bank, .int m_rb, .int m_codes, .int m_within, .int m_piled, .int m_unitsInRule, .int m_askFrom, .int m_askTo, .int m_askWrite, .int m_askUnder, .int m_askBack, .ref (md 40), .ref (md 41), .int m_thoughtSlow, .int m_came, .ref (md 44), .int m_acts, .int m_undone, .ref (md 47), .ref (md 48), .int m_laid, .ref (md 50), .ref (md 51), .ref (md 52), .ref (md 53), .ref (md 54), .int m_seens, .int m_time, .ref (md 57), .ref (md 58)])), (md 40, .inl (cyI, 520, .inl m_all))] ∧ (0 ≤ v13932.toInt) ∧ (v13932.toInt ≤ 6) ∧ (v13932.toInt ≤ (m_all 0).toInt) := ⟨(0 : Int32), hl, hP, hD, by first | assumption | omega, by first | assumption | omega, by first | assumption | omega⟩
  clear hP hl
  have hP := hP2
  have hD := hD2
  have hl := hl2
  clear hP2 hD2 hl2
  obtain ⟨n13936, hn13936⟩ : ∃ n : Nat, 6 - v13932.toInt < (n : Int) := ⟨(6 - v13932.toInt).toNat + 1, by omega⟩
  induction n13936 generalizing v13932 H locs ls with
  | zero => exfalso; omega
  | succ n13936 ih13937 =>
    refine lv_iload_n hx hb dX7_placeOf_2 rfl (lv_at hl 0 rfl) ?_
    refine lv_aload_n hx hb dX7_placeOf_3 rfl (lv_at hl 1 rfl) ?_
    refine gf_i (wr := []) (va_runV (As := []) (rest := [.int v13932]) hfix (k_M_lots l dC dI cyB cyI cyJ cyZ cyO hM md m_all m_taped m_size m_faultKind m_faultPlace m_at m_end m_token m_number m_bank m_rb m_codes m_within m_piled m_unitsInRule m_askFrom m_askTo m_askWrite m_askUnder m_askBack m_thoughtSlow m_came m_acts m_undone m_laid m_seens m_time m_name _ (by first | omega | assumption) (by first | omega | assumption) (by first | omega | assumption) (by first | omega | assumption) (by first | omega | assumption) (by first | omega | assumption) (by first | omega | assumption) (by first | omega | assumption) (by first | omega | assumption) (by first | omega | assumption) (by first | omega | assumption) (by first | omega | assumption) (by first | omega | assumption) (by first | omega | assumption) (by first | omega | assumption) (by first | omega | assumption) (by first | omega | assumption) (by first | omega | assumption) i0_m_all i1_m_all i2_m_all i3_m_all i4_m_all i5_m_all) (cwV 0 hts (gi_V (ow_m (k := 0) rfl) (ow_m (k := 1) rfl) (ow_m (k := 2) rfl) (ow_m (k := 3) rfl) (sb_c sb_l) gd_k_M_lots) rfl rfl rfl (by decide +kernel) ⟨Nat.le_of_ble_eq_true rfl, Nat.le_of_ble_eq_true rfl⟩) (g_preV hKN hP hD [0, 1] rfl (by decide) 0 7 rfl rfl) rfl rfl hl.1 rfl (lv_room (Nat.le_of_ble_eq_true rfl)) dX7_placeOf_4 ⟨Nat.le_of_ble_eq_true rfl, Nat.le_of_ble_eq_true rfl⟩) hP hD hS hA [0, 1] [] rfl rfl (by decide) (by decide) (fun r13938 u13939 H locs qu13939 hP hD hS => ?_)
    obtain ⟨b13940, b13941, b13942⟩ := qu13939
    have hP : va_P (dC, dI) vwCl [(hM, .inr (7, [.ref (md 0), .ref (md 1), .int m_taped, .int m_size, .int m_faultKind, .int m_faultPlace, .int m_at, .int m_end, .int m_token, .int m_number, .long m_name, .ref (md 11), .ref (md 12), .ref (md 13), .ref (md 14), .ref (md 15), .ref (md 16), .ref (md 17), .ref (md 18), .ref (md 19), .ref (md 20), .ref (md 21), .ref (md 22), .ref (md 23), .ref (md 24), .ref (md 25), .ref (md 26), .ref (md 27), .ref (md 28), .int m_bank, .int m_rb, .int m_codes, .int m_within, .int m_piled, .int m_unitsInRule, .int m_askFrom, .int m_askTo, .int m_askWrite, .int m_askUnder, .int m_askBack, .ref (md 40), .ref (md 41), .int m_thoughtSlow, .int m_came, .ref (md 44), .int m_acts, .int m_undone, .ref (md 47), .ref (md 48), .int m_laid, .ref (md 50), .ref (md 51), .ref (md 52), .ref (md 53), .ref (md 54), .int m_seens, .int m_time, .ref (md 57), .ref (md 58)])), (md 40, .inl (cyI, 520, .inl m_all))] H := hP
    have hD : va_D A [(hM, .inr (7, [.ref (md 0), .ref (md 1), .int m_taped, .int m_size, .int m_faultKind, .int m_faultPlace, .int m_at, .int m_end, .int m_token, .int m_number, .long m_name, .ref (md 11), .ref (md 12), .ref (md 13), .ref (md 14), .ref (md 15), .ref (md 16), .ref (md 17), .ref (md 18), .ref (md 19), .ref (md 20), .ref (md 21), .ref (md 22), .ref (md 23), .ref (md 24), .ref (md 25), .ref (md 26), .ref (md 27), .ref (md 28), .int m_bank, .int m_rb, .int m_codes, .int m_within, .int m_piled, .int m_unitsInRule, .int m_askFrom, .int m_askTo, .int m_askWrite, .int m_askUnder, .int m_askBack, .ref (md 40), .ref (md 41), .int m_thoughtSlow, .int m_came, .ref (md 44), .int m_acts, .int m_undone, .ref (md 47), .ref (md 48), .int m_laid, .ref (md 50), .ref (md 51), .ref (md 52), .ref (md 53), .ref (md 54), .int m_seens, .int m_time, .ref (md 57), .ref (md 58)])), (md 40, .inl (cyI, 520, .inl m_all))] := hD
    have hL9 : r13938.toInt = (m_all 0).toInt := by rw [b13942]
    refine lv_icmp_ge (tgt := 27) hx hb dX7_placeOf_7 (by decide) (fun c13943 => ?_) (fun c13943 => ?_)
    · have c13943 := i_le (a := r13938.toInt) (b := v13932.toInt) c13943 rfl rfl
      refine lv_iconst (v := (-1)) hx hb dX7_placeOf_27 (by decide) ?_
      have w13944 : -1 ≤ (-1 : Int32).toInt := by first | omega | assumption | rfl
      have w13945 : (-1 : Int32).toInt ≤ 5 := by first | omega | assumption | rfl
      have w13946 : (-1 : Int32).toInt < (m_all 0).toInt := by first | omega | assumption | rfl
      exact W.iret (v := (-1)) hx hb hr (fun t ht hW => ⟨⟨(-1), (), rfl, ⟨w13944, w13945, w13946⟩, cE.of ht hP hD [0, 1] (by decide) rfl⟩, hS.F ht⟩) hS.2.2 dX7_placeOf_28
    · have c13943 := i_nle (a := r13938.toInt) (b := v13932.toInt) c13943 rfl rfl
      refine lv_aload_n hx hb dX7_placeOf_10 rfl (lv_at hl 1 rfl) ?_
      refine lv_iload_n hx hb dX7_placeOf_11 rfl (lv_at hl 0 rfl) ?_
      refine gf_i (wr := []) (va_runV (As := [.int v13932]) (rest := []) hfix (k_M_nodeAt l dC dI cyB cyI cyJ cyZ cyO hM md m_all m_taped m_size m_faultKind m_faultPlace m_at m_end m_token m_number m_bank m_rb m_codes m_within m_piled m_unitsInRule m_askFrom m_askTo m_askWrite m_askUnder m_askBack m_thoughtSlow m_came m_acts m_undone m_laid m_seens m_time m_name v13932 _ (by first | omega | assumption) (by first | omega | assumption) (by first | omega | assumption) (by first | omega | assumption) (by first | omega | assumption) (by first | omega | assumption) (by first | omega | assumption) (by first | omega | assumption) (by first | omega | assumption) (by first | omega | assumption) (by first | omega | assumption) (by first | omega | assumption) (by first | omega | assumption) (by first | omega | assumption) (by first | omega | assumption) (by first | omega | assumption) (by first | omega | assumption) (by first | omega | assumption) i0_m_all i1_m_all i2_m_all i3_m_all i4_m_all i5_m_all (by first | omega | assumption) (by first | omega | assumption)) (cwV 1 hts (gi_V (ow_m (k := 4) rfl) (ow_m (k := 5) rfl) (ow_m (k := 6) rfl) (ow_m (k := 3) rfl) (sb_c (sb_r sb_l)) gd_k_M_nodeAt) rfl rfl rfl (by decide +kernel) ⟨Nat.le_of_ble_eq_true rfl, Nat.le_of_ble_eq_true rfl⟩) (g_preV hKN hP hD [0, 1] rfl (by decide) 0 7 rfl rfl) rfl rfl hl.1 rfl (lv_room (Nat.le_of_ble_eq_true rfl)) dX7_placeOf_12 ⟨Nat.le_of_ble_eq_true rfl, Nat.le_of_ble_eq_true rfl⟩) hP hD hS hA [0, 1] [] rfl rfl (by decide) (by decide) (fun r13947 u13948 H locs qu13948 hP hD hS => ?_)
      obtain ⟨b13949, b13950, b13951⟩ := qu13948
      have hP : va_P (dC, dI) vwCl [(hM, .inr (7, [.ref (md 0), .ref (md 1), .int m_taped, .int m_size, .int m_faultKind, .int m_faultPlace, .int m_at, .int m_end, .int m_token, .int m_number, .long m_name, .ref (md 11), .ref (md 12), .ref (md 13), .ref (md 14), .ref (md 15), .ref (md 16), .ref (md 17), .ref (md 18), .ref (md 19), .ref (md 20), .ref (md 21), .ref (md 22), .ref (md 23), .ref (md 24), .ref (md 25), .ref (md 26), .ref (md 27), .ref (md 28), .int m_bank, .int m_rb, .int m_codes, .int m_within, .int m_piled, .int m_unitsInRule, .int m_askFrom, .int m_askTo, .int m_askWrite, .int m_askUnder, .int m_askBack, .ref (md 40), .ref (md 41), .int m_thoughtSlow, .int m_came, .ref (md 44), .int m_acts, .int m_undone, .ref (md 47), .ref (md 48), .int m_laid, .ref (md 50), .ref (md 51), .ref (md 52), .ref (md 53), .ref (md 54), .int m_seens, .int m_time, .ref (md 57), .ref (md 58)])), (md 40, .inl (cyI, 520, .inl m_all))] H := hP
      have hD : va_D A [(hM, .inr (7, [.ref (md 0), .ref (md 1), .int m_taped, .int m_size, .int m_faultKind, .int m_faultPlace, .int m_at, .int m_end, .int m_token, .int m_number, .long m_name, .ref (md 11), .ref (md 12), .ref (md 13), .ref (md 14), .ref (md 15), .ref (md 16), .ref (md 17), .ref (md 18), .ref (md 19), .ref (md 20), .ref (md 21), .ref (md 22), .ref (md 23), .ref (md 24), .ref (md 25), .ref (md 26), .ref (md 27), .ref (md 28), .int m_bank, .int m_rb, .int m_codes, .int m_within, .int m_piled, .int m_unitsInRule, .int m_askFrom, .int m_askTo, .int m_askWrite, .int m_askUnder, .int m_askBack, .ref (md 40), .ref (md 41), .int m_thoughtSlow, .int m_came, .ref (md 44), .int m_acts, .int m_undone, .ref (md 47), .ref (md 48), .int m_laid, .ref (md 50), .ref (md 51), .ref (md 52), .ref (md 53), .ref (md 54), .int m_seens, .int m_time, .ref (md 57), .ref (md 58)])), (md 40, .inl (cyI, 520, .inl m_all))] := hD
      refine lv_iload_n hx hb dX7_placeOf_15 rfl (lv_at hl 2 rfl) ?_
      refine lv_icmp_ne (tgt := 21) hx hb dX7_placeOf_16 (by decide) (fun c13952 => ?_) (fun c13952 => ?_)
      · have c13952 := i_ne (a := r13947.toInt) (b := x1.toInt) c13952 rfl rfl
        obtain ⟨z13953, ez13953⟩ : ∃ y : Int32, y = v13932 + 1 := ⟨_, rfl⟩
        have tz13953 := ti_add (a := v13932.toInt) (b := 1) ez13953 rfl (by decide) (by omega) (by omega)
        refine lv_iinc (v := z13953) (lv' := [(2, .int z13953), (0, .ref hM), (1, .int x1)]) hx hb dX7_placeOf_21 hl (k := 0) rfl (by rw [ez13953]; rfl) (by decide) rfl (fun ls hl => ?_)
        refine lv_goto (tgt := 2) hx hb dX7_placeOf_24 (by decide) ?_
        have hl := lv_sub (l' := [(2, .int z13953), (0, .ref hM), (1, .int x1)]) hl [0, 1, 2] rfl
        apply ih13937 (v13932 := z13953) (H := H) (locs := locs) (ls := ls) <;> first | assumption | omega
      · have c13952 := i_eq (a := r13947.toInt) (b := x1.toInt) c13952 rfl rfl
        refine lv_iload_n hx hb dX7_placeOf_19 rfl (lv_at hl 0 rfl) ?_
        have w13954 : -1 ≤ v13932.toInt := by first | omega | assumption | rfl
        have w13955 : v13932.toInt ≤ 5 := by first | omega | assumption | rfl
        have w13956 : v13932.toInt < (m_all 0).toInt := by first | omega | assumption | rfl
        exact W.iret (v := v13932) hx hb hr (fun t ht hW => ⟨⟨v13932, (), rfl, ⟨w13954, w13955, w13956⟩, cE.of ht hP hD [0, 1] (by decide) rfl⟩, hS.F ht⟩) hS.2.2 dX7_placeOf_20
def wo_k_M_isNode : List Cond := [.fieldLink RX7 20 "ReplicaChainModel" "nodes" "[I", .fieldLink RX7 214 "ReplicaChainModel" "bank" "I", .methodLink RX7 316 yX7_isIn, .static yX7_isIn, .initialized RX7]
def wq_k_M_isNode : List Cond := .code yX7_isNode cX7_isNode 2 (some .boolean) :: (wo_k_M_isNode ++ (wq_k_M_isIn ++ (wsX70 ++ [])))
theorem gd_k_M_isNode : Gd wq_k_M_isNode := gd_c (gd_a (gd_o (by decide +kernel)) (gd_a gd_k_M_isIn (gd_a gd_u gd_0)))
abbrev wc_k_M_isNode (cyB cyI cyJ cyZ cyO : ClassId) (hM : Nat) (md : Nat → Nat) (m_nodes : Nat → Int32) (m_taped : Int32) (m_size : Int32) (m_faultKind : Int32) (m_faultPlace : Int32) (m_at : Int32) (m_end : Int32) (m_token : Int32) (m_number : Int32) (m_bank : Int32) (m_rb : Int32) (m_codes : Int32) (m_within : Int32) (m_piled : Int32) (m_unitsInRule : Int32) (m_askFrom : Int32) (m_askTo : Int32) (m_askWrite : Int32) (m_askUnder : Int32) (m_askBack : Int32) (m_thoughtSlow : Int32) (m_came : Int32) (m_acts : Int32) (m_undone : Int32) (m_laid : Int32) (m_seens : Int32) (m_time : Int32) (m_name : Int64) (x1 : Int32) : va_W := [(hM, .inr (7, [.ref (md 0), .ref (md 1), .int m_taped, .int m_size, .int m_faultKind, .int m_faultPlace, .int m_at, .int m_end, .int m_token, .int m_number, .long m_name, .ref (md 11), .ref (md 12), .ref (md 13), .ref (md 14), .ref (md 15), .ref (md 16), .ref (md 17), .ref (md 18), .ref (md 19), .ref (md 20), .ref (md 21), .ref (md 22), .ref (md 23), .ref (md 24), .ref (md 25), .ref (md 26), .ref (md 27), .ref (md 28), .int m_bank, .int m_rb, .int m_codes, .int m_within, .int m_piled, .int m_unitsInRule, .int m_askFrom, .int m_askTo, .int m_askWrite, .int m_askUnder, .int m_askBack, .ref (md 40), .ref (md 41), .int m_thoughtSlow, .int m_came, .ref (md 44), .int m_acts, .int m_undone, .ref (md 47), .ref (md 48), .int m_laid, .ref (md 50), .ref (md 51), .ref (md 52), .ref (md 53), .ref (md 54), .int m_seens, .int m_time, .ref (md 57), .ref (md 58)])), (md 11, .inl (cyI, 2, .inl m_nodes))]
set_option maxHeartbeats 4000000 in
set_option maxRecDepth 100000 in
theorem k_M_isNode (l : Launch) (dC : Nat → ClassId) (dI : Nat → Nat → Nat) (cyB cyI cyJ cyZ cyO : ClassId) (hM : Nat) (md : Nat → Nat) (m_nodes : Nat → Int32) (m_taped : Int32) (m_size : Int32) (m_faultKind : Int32) (m_faultPlace : Int32) (m_at : Int32) (m_end : Int32) (m_token : Int32) (m_number : Int32) (m_bank : Int32) (m_rb : Int32) (m_codes : Int32) (m_within : Int32) (m_piled : Int32) (m_unitsInRule : Int32) (m_askFrom : Int32) (m_askTo : Int32) (m_askWrite : Int32) (m_askUnder : Int32) (m_askBack : Int32) (m_thoughtSlow : Int32) (m_came : Int32) (m_acts : Int32) (m_undone : Int32) (m_laid : Int32) (m_seens : Int32) (m_time : Int32) (m_name : Int64) (x1 : Int32) (sz : Nat) (l_m_taped : 0 ≤ m_taped.toInt) (u_m_taped : m_taped.toInt ≤ 1600) (l_m_size : 0 ≤ m_size.toInt) (u_m_size : m_size.toInt ≤ 1600) (l_m_bank : 0 ≤ m_bank.toInt) (u_m_bank : m_bank.toInt ≤ 1) (l_m_rb : 0 ≤ m_rb.toInt) (u_m_rb : m_rb.toInt ≤ 1) (l_m_acts : 0 ≤ m_acts.toInt) (u_m_acts : m_acts.toInt ≤ 40) (l_m_undone : 0 ≤ m_undone.toInt) (u_m_undone : m_undone.toInt ≤ 40) (l_m_laid : 0 ≤ m_laid.toInt) (u_m_laid : m_laid.toInt ≤ 6) (l_m_seens : 0 ≤ m_seens.toInt) (u_m_seens : m_seens.toInt ≤ 30) (l_m_time : 0 ≤ m_time.toInt) (u_m_time : m_time.toInt ≤ 100000) (i0_m_nodes : In2 m_nodes 0 2 (0) (8)) : Met l yX7_isNode wq_k_M_isNode ({ frames := 1, cells := 0, slots := 0, locals := 22 }) (va_Pc [.ref hM, .int x1] (cB (dC, dI) (kT cyB cyI cyJ cyZ cyO) (wc_k_M_isNode cyB cyI cyJ cyZ cyO hM md m_nodes m_taped m_size m_faultKind m_faultPlace m_at m_end m_token m_number m_bank m_rb m_codes m_within m_piled m_unitsInRule m_askFrom m_askTo m_askWrite m_askUnder m_askBack m_thoughtSlow m_came m_acts m_undone m_laid m_seens m_time m_name x1) sz)) (va_Qi (fun (r : Int32) (u : Unit) => (((r = 1 ∧ (0 ≤ x1.toInt) ∧ (x1.toInt ≤ 7)) ∨ (r = 0)))) (fun (u : Unit) t => cE (dC, dI) (va_A (wc_k_M_isNode cyB cyI cyJ cyZ cyO hM md m_nodes m_taped m_size m_faultKind m_faultPlace m_at m_end m_token m_number m_bank m_rb m_codes m_within m_piled m_unitsInRule m_askFrom m_askTo m_askWrite m_askUnder m_askBack m_thoughtSlow m_came m_acts m_undone m_laid m_seens m_time m_name x1) sz) ([(hM, .inr (7, [.ref (md 0), .ref (md 1), .int m_taped, .int m_size, .int m_faultKind, .int m_faultPlace, .int m_at, .int m_end, .int m_token, .int m_number, .long m_name, .ref (md 11), .ref (md 12), .ref (md 13), .ref (md 14), .ref (md 15), .ref (md 16), .ref (md 17), .ref (md 18), .ref (md 19), .ref (md 20), .ref (md 21), .ref (md 22), .ref (md 23), .ref (md 24), .ref (md 25), .ref (md 26), .ref (md 27), .ref (md 28), .int m_bank, .int m_rb, .int m_codes, .int m_within, .int m_piled, .int m_unitsInRule, .int m_askFrom, .int m_askTo, .int m_askWrite, .int m_askUnder, .int m_askBack, .ref (md 40), .ref (md 41), .int m_thoughtSlow, .int m_came, .ref (md 44), .int m_acts, .int m_undone, .ref (md 47), .ref (md 48), .int m_laid, .ref (md 50), .ref (md 51), .ref (md 52), .ref (md 53), .ref (md 54), .int m_seens, .int m_time, .ref (md 57), .ref (md 58)])), (md 11, .inl (cyI, 2, .inl m_nodes))]) t.heap) (va_A (wc_k_M_isNode cyB cyI cyJ cyZ cyO hM md m_nodes m_taped m_size m_faultKind m_faultPlace m_at m_end m_token m_number m_bank m_rb m_codes m_within m_piled m_unitsInRule m_askFrom m_askTo m_askWrite m_askUnder m_askBack m_thoughtSlow m_came m_acts m_undone m_laid m_seens m_time m_name x1) sz)) 0 0 (va_A (wc_k_M_isNode cyB cyI cyJ cyZ cyO hM md m_nodes m_taped m_size m_faultKind m_faultPlace m_at m_end m_token m_number m_bank m_rb m_codes m_within m_piled m_unitsInRule m_askFrom m_askTo m_askWrite m_askUnder m_askBack m_thoughtSlow m_came m_acts m_undone m_laid m_seens m_time m_name x1) sz) := by
  refine Met.ofW (cc := cX7_isNode) (maxL := 2) (ret := (some .boolean)) (by decide) rfl ?_
  intro p e s m args below meth c s₁ B hml hv
  obtain ⟨rfl, hsz, hP, hKN, hD0⟩ := hv
  have hx := B.exec
  have hb := B.bytes
  have hr := B.returns
  have hts := atoms_spec (ws := wq_k_M_isNode) B.pre
  have hown : s.vm.findClass RX7 = some m.cls := findClass_of_methodNamed B.named
  have hlocks := B.notSynchronized
  have hK := hKN.1
  have hfix : CallFix p m c cX7_isNode 2 s [.ref hM, .int x1].toArray wq_k_M_isNode RX7 := ⟨hx, hb, hml, hown, hts⟩
  have hi7 : ∀ w ∈ wsX70, w ∈ wq_k_M_isNode := (sb_c (sb_r sb_l))
  subst hsz
  have hD := hD0.self (sz := s.heap.size)
  generalize hAe : va_A (wc_k_M_isNode cyB cyI cyJ cyZ cyO hM md m_nodes m_taped m_size m_faultKind m_faultPlace m_at m_end m_token m_number m_bank m_rb m_codes m_within m_piled m_unitsInRule m_askFrom m_askTo m_askWrite m_askUnder m_askBack m_thoughtSlow m_came m_acts m_undone m_laid m_seens m_time m_name x1) s.heap.size = A at hD ⊢
  have hA : ∀ q : Nat, s.heap.size ≤ q → A q := fun q h => by rw [← hAe]; exact Or.inr h
  have hS : va_S A s.heap s.heap [] := va_S.rf
  have hl := lv_entry ([.ref hM, .int x1]) (n := 2) (Nat.le_of_ble_eq_true rfl)
  rw [lg_entry_eq]
  generalize (lg_sl ([.ref hM, .int x1]) ++ List.replicate (2 - (lg_sl ([.ref hM, .int x1])).length) Slot.unset).toArray = ls at hl ⊢
  have hl : lv_has ls 2 [(0, .ref hM), (1, .int x1)] := hl
  have ck0 : (0 : Int32).toInt = 0 := by decide
  have ck1 : (1 : Int32).toInt = 1 := by decide
  refine lv_iload_n hx hb dX7_isNode_0 rfl (lv_at hl 1 rfl) ?_
  refine lv_iconst (v := 0) hx hb dX7_isNode_1 (by decide) ?_
  refine lv_aload_n hx hb dX7_isNode_2 rfl (lv_at hl 0 rfl) ?_
  refine va_get (D := (dC, dI)) (ci := 7) (v := .ref (md 11)) (C := RX7) (T := TX7) (N := 59) hx hb hts hi7 hown hK hP 0 rfl rfl 11 (by decide) (hts _ (ow_m (k := 0) rfl)) (fun _ h9 => h9) rfl dX7_isNode_3 ?_
  refine lv_aload_n hx hb dX7_isNode_6 rfl (lv_at hl 0 rfl) ?_
  refine va_get (D := (dC, dI)) (ci := 7) (v := .int m_bank) (C := RX7) (T := TX7) (N := 59) hx hb hts hi7 hown hK hP 0 rfl rfl 29 (by decide) (hts _ (ow_m (k := 1) rfl)) (fun _ h9 => h9) rfl dX7_isNode_7 ?_
  refine va_iald hx hb hK hP 1 1 rfl rfl (vp_i rfl (by omega) (by omega)) dX7_isNode_10 ?_
  refine lv_topi (fun z13973 ez13973 => ?_)
  have tz13973 := i0_m_nodes.at (x := m_bank.toInt) ez13973 rfl (by omega) (by omega)
  refine lv_iconst (v := 1) hx hb dX7_isNode_11 (by decide) ?_
  refine lv_isub hx hb dX7_isNode_12 ?_
  refine lv_topi (fun z13974 ez13974 => ?_)
  have tz13974 := ti_sub (a := z13973.toInt) (b := 1) ez13974 rfl (by decide) (by omega) (by omega)
  refine gf_i (wr := [(hM, .inr (7, [.ref (md 0), .ref (md 1), .int m_taped, .int m_size, .int m_faultKind, .int m_faultPlace, .int m_at, .int m_end, .int m_token, .int m_number, .long m_name, .ref (md 11), .ref (md 12), .ref (md 13), .ref (md 14), .ref (md 15), .ref (md 16), .ref (md 17), .ref (md 18), .ref (md 19), .ref (md 20), .ref (md 21), .ref (md 22), .ref (md 23), .ref (md 24), .ref (md 25), .ref (md 26), .ref (md 27), .ref (md 28), .int m_bank, .int m_rb, .int m_codes, .int m_within, .int m_piled, .int m_unitsInRule, .int m_askFrom, .int m_askTo, .int m_askWrite, .int m_askUnder, .int m_askBack, .ref (md 40), .ref (md 41), .int m_thoughtSlow, .int m_came, .ref (md 44), .int m_acts, .int m_undone, .ref (md 47), .ref (md 48), .int m_laid, .ref (md 50), .ref (md 51), .ref (md 52), .ref (md 53), .ref (md 54), .int m_seens, .int m_time, .ref (md 57), .ref (md 58)])), (md 11, .inl (cyI, 2, .inl m_nodes))]) (va_runS (As := [.int x1, .int 0, .int z13974]) (rest := []) hfix (k_M_isIn l dC dI cyB cyI cyJ cyZ cyO x1 (0 : Int32) z13974 _) (va_cwS 3 hts (gi_S (ow_m (k := 2) rfl) (ow_m (k := 3) rfl) (ow_m (k := 4) rfl) (sb_c sb_l) gd_k_M_isIn) rfl rfl rfl (by decide +kernel) ⟨Nat.le_of_ble_eq_true rfl, Nat.le_of_ble_eq_true rfl⟩) (g_preS hKN hP hD [] rfl (by decide)) rfl rfl hl.1 rfl (lv_room (Nat.le_of_ble_eq_true rfl)) dX7_isNode_13 ⟨Nat.le_of_ble_eq_true rfl, Nat.le_of_ble_eq_true rfl⟩) hP hD hS hA [] [0, 1] rfl rfl (by decide) (by decide) (fun r13975 u13976 H locs qu13976 hP hD hS => ?_)
  have b13977 := qu13976
  have hP : va_P (dC, dI) vwCl [(hM, .inr (7, [.ref (md 0), .ref (md 1), .int m_taped, .int m_size, .int m_faultKind, .int m_faultPlace, .int m_at, .int m_end, .int m_token, .int m_number, .long m_name, .ref (md 11), .ref (md 12), .ref (md 13), .ref (md 14), .ref (md 15), .ref (md 16), .ref (md 17), .ref (md 18), .ref (md 19), .ref (md 20), .ref (md 21), .ref (md 22), .ref (md 23), .ref (md 24), .ref (md 25), .ref (md 26), .ref (md 27), .ref (md 28), .int m_bank, .int m_rb, .int m_codes, .int m_within, .int m_piled, .int m_unitsInRule, .int m_askFrom, .int m_askTo, .int m_askWrite, .int m_askUnder, .int m_askBack, .ref (md 40), .ref (md 41), .int m_thoughtSlow, .int m_came, .ref (md 44), .int m_acts, .int m_undone, .ref (md 47), .ref (md 48), .int m_laid, .ref (md 50), .ref (md 51), .ref (md 52), .ref (md 53), .ref (md 54), .int m_seens, .int m_time, .ref (md 57), .ref (md 58)])), (md 11, .inl (cyI, 2, .inl m_nodes))] H := hP
  have hD : va_D A [(hM, .inr (7, [.ref (md 0), .ref (md 1), .int m_taped, .int m_size, .int m_faultKind, .int m_faultPlace, .int m_at, .int m_end, .int m_token, .int m_number, .long m_name, .ref (md 11), .ref (md 12), .ref (md 13), .ref (md 14), .ref (md 15), .ref (md 16), .ref (md 17), .ref (md 18), .ref (md 19), .ref (md 20), .ref (md 21), .ref (md 22), .ref (md 23), .ref (md 24), .ref (md 25), .ref (md 26), .ref (md 27), .ref (md 28), .int m_bank, .int m_rb, .int m_codes, .int m_within, .int m_piled, .int m_unitsInRule, .int m_askFrom, .int m_askTo, .int m_askWrite, .int m_askUnder, .int m_askBack, .ref (md 40), .ref (md 41), .int m_thoughtSlow, .int m_came, .ref (md 44), .int m_acts, .int m_undone, .ref (md 47), .ref (md 48), .int m_laid, .ref (md 50), .ref (md 51), .ref (md 52), .ref (md 53), .ref (md 54), .int m_seens, .int m_time, .ref (md 57), .ref (md 58)])), (md 11, .inl (cyI, 2, .inl m_nodes))] := hD
  rcases b13977 with ⟨rfl, b13978, b13979⟩ | ⟨rfl, b13980⟩
  · skip
    have w13981 : 0 ≤ x1.toInt := by first | omega | assumption | rfl
    have w13982 : x1.toInt ≤ 7 := by first | omega | assumption | rfl
    exact W.zret (v := 1) hx hb hr (by decide) (fun t ht hW => ⟨⟨1, (), rfl, (Or.inl ⟨rfl, w13981, w13982⟩), cE.of ht hP hD [0, 1] (by decide) rfl⟩, hS.F ht⟩) hS.2.2 dX7_isNode_16
  · skip
    exact W.zret (v := 0) hx hb hr (by decide) (fun t ht hW => ⟨⟨0, (), rfl, (Or.inr rfl), cE.of ht hP hD [0, 1] (by decide) rfl⟩, hS.F ht⟩) hS.2.2 dX7_isNode_16
def wo_k_M_isKey : List Cond := [.fieldLink RX7 27 "ReplicaChainModel" "keys" "[I", .fieldLink RX7 214 "ReplicaChainModel" "bank" "I", .methodLink RX7 316 yX7_isIn, .static yX7_isIn, .initialized RX7]
def wq_k_M_isKey : List Cond := .code yX7_isKey cX7_isKey 2 (some .boolean) :: (wo_k_M_isKey ++ (wq_k_M_isIn ++ (wsX70 ++ [])))
theorem gd_k_M_isKey : Gd wq_k_M_isKey := gd_c (gd_a (gd_o (by decide +kernel)) (gd_a gd_k_M_isIn (gd_a gd_u gd_0)))
abbrev wc_k_M_isKey (cyB cyI cyJ cyZ cyO : ClassId) (hM : Nat) (md : Nat → Nat) (m_keys : Nat → Int32) (m_taped : Int32) (m_size : Int32) (m_faultKind : Int32) (m_faultPlace : Int32) (m_at : Int32) (m_end : Int32) (m_token : Int32) (m_number : Int32) (m_bank : Int32) (m_rb : Int32) (m_codes : Int32) (m_within : Int32) (m_piled : Int32) (m_unitsInRule : Int32) (m_askFrom : Int32) (m_askTo : Int32) (m_askWrite : Int32) (m_askUnder : Int32) (m_askBack : Int32) (m_thoughtSlow : Int32) (m_came : Int32) (m_acts : Int32) (m_undone : Int32) (m_laid : Int32) (m_seens : Int32) (m_time : Int32) (m_name : Int64) (x1 : Int32) : va_W := [(hM, .inr (7, [.ref (md 0), .ref (md 1), .int m_taped, .int m_size, .int m_faultKind, .int m_faultPlace, .int m_at, .int m_end, .int m_token, .int m_number, .long m_name, .ref (md 11), .ref (md 12), .ref (md 13), .ref (md 14), .ref (md 15), .ref (md 16), .ref (md 17), .ref (md 18), .ref (md 19), .ref (md 20), .ref (md 21), .ref (md 22), .ref (md 23), .ref (md 24), .ref (md 25), .ref (md 26), .ref (md 27), .ref (md 28), .int m_bank, .int m_rb, .int m_codes, .int m_within, .int m_piled, .int m_unitsInRule, .int m_askFrom, .int m_askTo, .int m_askWrite, .int m_askUnder, .int m_askBack, .ref (md 40), .ref (md 41), .int m_thoughtSlow, .int m_came, .ref (md 44), .int m_acts, .int m_undone, .ref (md 47), .ref (md 48), .int m_laid, .ref (md 50), .ref (md 51), .ref (md 52), .ref (md 53), .ref (md 54), .int m_seens, .int m_time, .ref (md 57), .ref (md 58)])), (md 13, .inl (cyI, 2, .inl m_keys))]
set_option maxHeartbeats 4000000 in
set_option maxRecDepth 100000 in
theorem k_M_isKey (l : Launch) (dC : Nat → ClassId) (dI : Nat → Nat → Nat) (cyB cyI cyJ cyZ cyO : ClassId) (hM : Nat) (md : Nat → Nat) (m_keys : Nat → Int32) (m_taped : Int32) (m_size : Int32) (m_faultKind : Int32) (m_faultPlace : Int32) (m_at : Int32) (m_end : Int32) (m_token : Int32) (m_number : Int32) (m_bank : Int32) (m_rb : Int32) (m_codes : Int32) (m_within : Int32) (m_piled : Int32) (m_unitsInRule : Int32) (m_askFrom : Int32) (m_askTo : Int32) (m_askWrite : Int32) (m_askUnder : Int32) (m_askBack : Int32) (m_thoughtSlow : Int32) (m_came : Int32) (m_acts : Int32) (m_undone : Int32) (m_laid : Int32) (m_seens : Int32) (m_time : Int32) (m_name : Int64) (x1 : Int32) (sz : Nat) (l_m_taped : 0 ≤ m_taped.toInt) (u_m_taped : m_taped.toInt ≤ 1600) (l_m_size : 0 ≤ m_size.toInt) (u_m_size : m_size.toInt ≤ 1600) (l_m_bank : 0 ≤ m_bank.toInt) (u_m_bank : m_bank.toInt ≤ 1) (l_m_rb : 0 ≤ m_rb.toInt) (u_m_rb : m_rb.toInt ≤ 1) (l_m_acts : 0 ≤ m_acts.toInt) (u_m_acts : m_acts.toInt ≤ 40) (l_m_undone : 0 ≤ m_undone.toInt) (u_m_undone : m_undone.toInt ≤ 40) (l_m_laid : 0 ≤ m_laid.toInt) (u_m_laid : m_laid.toInt ≤ 6) (l_m_seens : 0 ≤ m_seens.toInt) (u_m_seens : m_seens.toInt ≤ 30) (l_m_time : 0 ≤ m_time.toInt) (u_m_time : m_time.toInt ≤ 100000) (i0_m_keys : In2 m_keys 0 2 (0) (4)) : Met l yX7_isKey wq_k_M_isKey ({ frames := 1, cells := 0, slots := 0, locals := 22 }) (va_Pc [.ref hM, .int x1] (cB (dC, dI) (kT cyB cyI cyJ cyZ cyO) (wc_k_M_isKey cyB cyI cyJ cyZ cyO hM md m_keys m_taped m_size m_faultKind m_faultPlace m_at m_end m_token m_number m_bank m_rb m_codes m_within m_piled m_unitsInRule m_askFrom m_askTo m_askWrite m_askUnder m_askBack m_thoughtSlow m_came m_acts m_undone m_laid m_seens m_time m_name x1) sz)) (va_Qi (fun (r : Int32) (u : Unit) => (((r = 1 ∧ (0 ≤ x1.toInt) ∧ (x1.toInt ≤ 3)) ∨ (r = 0)))) (fun (u : Unit) t => cE (dC, dI) (va_A (wc_k_M_isKey cyB cyI cyJ cyZ cyO hM md m_keys m_taped m_size m_faultKind m_faultPlace m_at m_end m_token m_number m_bank m_rb m_codes m_within m_piled m_unitsInRule m_askFrom m_askTo m_askWrite m_askUnder m_askBack m_thoughtSlow m_came m_acts m_undone m_laid m_seens m_time m_name x1) sz) ([(hM, .inr (7, [.ref (md 0), .ref (md 1), .int m_taped, .int m_size, .int m_faultKind, .int m_faultPlace, .int m_at, .int m_end, .int m_token, .int m_number, .long m_name, .ref (md 11), .ref (md 12), .ref (md 13), .ref (md 14), .ref (md 15), .ref (md 16), .ref (md 17), .ref (md 18), .ref (md 19), .ref (md 20), .ref (md 21), .ref (md 22), .ref (md 23), .ref (md 24), .ref (md 25), .ref (md 26), .ref (md 27), .ref (md 28), .int m_bank, .int m_rb, .int m_codes, .int m_within, .int m_piled, .int m_unitsInRule, .int m_askFrom, .int m_askTo, .int m_askWrite, .int m_askUnder, .int m_askBack, .ref (md 40), .ref (md 41), .int m_thoughtSlow, .int m_came, .ref (md 44), .int m_acts, .int m_undone, .ref (md 47), .ref (md 48), .int m_laid, .ref (md 50), .ref (md 51), .ref (md 52), .ref (md 53), .ref (md 54), .int m_seens, .int m_time, .ref (md 57), .ref (md 58)])), (md 13, .inl (cyI, 2, .inl m_keys))]) t.heap) (va_A (wc_k_M_isKey cyB cyI cyJ cyZ cyO hM md m_keys m_taped m_size m_faultKind m_faultPlace m_at m_end m_token m_number m_bank m_rb m_codes m_within m_piled m_unitsInRule m_askFrom m_askTo m_askWrite m_askUnder m_askBack m_thoughtSlow m_came m_acts m_undone m_laid m_seens m_time m_name x1) sz)) 0 0 (va_A (wc_k_M_isKey cyB cyI cyJ cyZ cyO hM md m_keys m_taped m_size m_faultKind m_faultPlace m_at m_end m_token m_number m_bank m_rb m_codes m_within m_piled m_unitsInRule m_askFrom m_askTo m_askWrite m_askUnder m_askBack m_thoughtSlow m_came m_acts m_undone m_laid m_seens m_time m_name x1) sz) := by
  refine Met.ofW (cc := cX7_isKey) (maxL := 2) (ret := (some .boolean)) (by decide) rfl ?_
  intro p e s m args below meth c s₁ B hml hv
  obtain ⟨rfl, hsz, hP, hKN, hD0⟩ := hv
  have hx := B.exec
  have hb := B.bytes
  have hr := B.returns
  have hts := atoms_spec (ws := wq_k_M_isKey) B.pre
  have hown : s.vm.findClass RX7 = some m.cls := findClass_of_methodNamed B.named
  have hlocks := B.notSynchronized
  have hK := hKN.1
  have hfix : CallFix p m c cX7_isKey 2 s [.ref hM, .int x1].toArray wq_k_M_isKey RX7 := ⟨hx, hb, hml, hown, hts⟩
  have hi7 : ∀ w ∈ wsX70, w ∈ wq_k_M_isKey := (sb_c (sb_r sb_l))
  subst hsz
  have hD := hD0.self (sz := s.heap.size)
  generalize hAe : va_A (wc_k_M_isKey cyB cyI cyJ cyZ cyO hM md m_keys m_taped m_size m_faultKind m_faultPlace m_at m_end m_token m_number m_bank m_rb m_codes m_within m_piled m_unitsInRule m_askFrom m_askTo m_askWrite m_askUnder m_askBack m_thoughtSlow m_came m_acts m_undone m_laid m_seens m_time m_name x1) s.heap.size = A at hD ⊢
  have hA : ∀ q : Nat, s.heap.size ≤ q → A q := fun q h => by rw [← hAe]; exact Or.inr h
  have hS : va_S A s.heap s.heap [] := va_S.rf
  have hl := lv_entry ([.ref hM, .int x1]) (n := 2) (Nat.le_of_ble_eq_true rfl)
  rw [lg_entry_eq]
  generalize (lg_sl ([.ref hM, .int x1]) ++ List.replicate (2 - (lg_sl ([.ref hM, .int x1])).length) Slot.unset).toArray = ls at hl ⊢
  have hl : lv_has ls 2 [(0, .ref hM), (1, .int x1)] := hl
  have ck0 : (0 : Int32).toInt = 0 := by decide
  have ck1 : (1 : Int32).toInt = 1 := by decide
  refine lv_iload_n hx hb dX7_isKey_0 rfl (lv_at hl 1 rfl) ?_
  refine lv_iconst (v := 0) hx hb dX7_isKey_1 (by decide) ?_
  refine lv_aload_n hx hb dX7_isKey_2 rfl (lv_at hl 0 rfl) ?_
  refine va_get (D := (dC, dI)) (ci := 7) (v := .ref (md 13)) (C := RX7) (T := TX7) (N := 59) hx hb hts hi7 hown hK hP 0 rfl rfl 13 (by decide) (hts _ (ow_m (k := 0) rfl)) (fun _ h9 => h9) rfl dX7_isKey_3 ?_
  refine lv_aload_n hx hb dX7_isKey_6 rfl (lv_at hl 0 rfl) ?_
  refine va_get (D := (dC, dI)) (ci := 7) (v := .int m_bank) (C := RX7) (T := TX7) (N := 59) hx hb hts hi7 hown hK hP 0 rfl rfl 29 (by decide) (hts _ (ow_m (k := 1) rfl)) (fun _ h9 => h9) rfl dX7_isKey_7 ?_
  refine va_iald hx hb hK hP 1 1 rfl rfl (vp_i rfl (by omega) (by omega)) dX7_isKey_10 ?_
  refine lv_topi (fun z13999 ez13999 => ?_)
  have tz13999 := i0_m_keys.at (x := m_bank.toInt) ez13999 rfl (by omega) (by omega)
  refine lv_iconst (v := 1) hx hb dX7_isKey_11 (by decide) ?_
  refine lv_isub hx hb dX7_isKey_12 ?_
  refine lv_topi (fun z14000 ez14000 => ?_)
  have tz14000 := ti_sub (a := z13999.toInt) (b := 1) ez14000 rfl (by decide) (by omega) (by omega)
  refine gf_i (wr := [(hM, .inr (7, [.ref (md 0), .ref (md 1), .int m_taped, .int m_size, .int m_faultKind, .int m_faultPlace, .int m_at, .int m_end, .int m_token, .int m_number, .long m_name, .ref (md 11), .ref (md 12), .ref (md 13), .ref (md 14), .ref (md 15), .ref (md 16), .ref (md 17), .ref (md 18), .ref (md 19), .ref (md 20), .ref (md 21), .ref (md 22), .ref (md 23), .ref (md 24), .ref (md 25), .ref (md 26), .ref (md 27), .ref (md 28), .int m_bank, .int m_rb, .int m_codes, .int m_within, .int m_piled, .int m_unitsInRule, .int m_askFrom, .int m_askTo, .int m_askWrite, .int m_askUnder, .int m_askBack, .ref (md 40), .ref (md 41), .int m_thoughtSlow, .int m_came, .ref (md 44), .int m_acts, .int m_undone, .ref (md 47), .ref (md 48), .int m_laid, .ref (md 50), .ref (md 51), .ref (md 52), .ref (md 53), .ref (md 54), .int m_seens, .int m_time, .ref (md 57), .ref (md 58)])), (md 13, .inl (cyI, 2, .inl m_keys))]) (va_runS (As := [.int x1, .int 0, .int z14000]) (rest := []) hfix (k_M_isIn l dC dI cyB cyI cyJ cyZ cyO x1 (0 : Int32) z14000 _) (va_cwS 3 hts (gi_S (ow_m (k := 2) rfl) (ow_m (k := 3) rfl) (ow_m (k := 4) rfl) (sb_c sb_l) gd_k_M_isIn) rfl rfl rfl (by decide +kernel) ⟨Nat.le_of_ble_eq_true rfl, Nat.le_of_ble_eq_true rfl⟩) (g_preS hKN hP hD [] rfl (by decide)) rfl rfl hl.1 rfl (lv_room (Nat.le_of_ble_eq_true rfl)) dX7_isKey_13 ⟨Nat.le_of_ble_eq_true rfl, Nat.le_of_ble_eq_true rfl⟩) hP hD hS hA [] [0, 1] rfl rfl (by decide) (by decide) (fun r14001 u14002 H locs qu14002 hP hD hS => ?_)
  have b14003 := qu14002
  have hP : va_P (dC, dI) vwCl [(hM, .inr (7, [.ref (md 0), .ref (md 1), .int m_taped, .int m_size, .int m_faultKind, .int m_faultPlace, .int m_at, .int m_end, .int m_token, .int m_number, .long m_name, .ref (md 11), .ref (md 12), .ref (md 13), .ref (md 14), .ref (md 15), .ref (md 16), .ref (md 17), .ref (md 18), .ref (md 19), .ref (md 20), .ref (md 21), .ref (md 22), .ref (md 23), .ref (md 24), .ref (md 25), .ref (md 26), .ref (md 27), .ref (md 28), .int m_bank, .int m_rb, .int m_codes, .int m_within, .int m_piled, .int m_unitsInRule, .int m_askFrom, .int m_askTo, .int m_askWrite, .int m_askUnder, .int m_askBack, .ref (md 40), .ref (md 41), .int m_thoughtSlow, .int m_came, .ref (md 44), .int m_acts, .int m_undone, .ref (md 47), .ref (md 48), .int m_laid, .ref (md 50), .ref (md 51), .ref (md 52), .ref (md 53), .ref (md 54), .int m_seens, .int m_time, .ref (md 57), .ref (md 58)])), (md 13, .inl (cyI, 2, .inl m_keys))] H := hP
  have hD : va_D A [(hM, .inr (7, [.ref (md 0), .ref (md 1), .int m_taped, .int m_size, .int m_faultKind, .int m_faultPlace, .int m_at, .int m_end, .int m_token, .int m_number, .long m_name, .ref (md 11), .ref (md 12), .ref (md 13), .ref (md 14), .ref (md 15), .ref (md 16), .ref (md 17), .ref (md 18), .ref (md 19), .ref (md 20), .ref (md 21), .ref (md 22), .ref (md 23), .ref (md 24), .ref (md 25), .ref (md 26), .ref (md 27), .ref (md 28), .int m_bank, .int m_rb, .int m_codes, .int m_within, .int m_piled, .int m_unitsInRule, .int m_askFrom, .int m_askTo, .int m_askWrite, .int m_askUnder, .int m_askBack, .ref (md 40), .ref (md 41), .int m_thoughtSlow, .int m_came, .ref (md 44), .int m_acts, .int m_undone, .ref (md 47), .ref (md 48), .int m_laid, .ref (md 50), .ref (md 51), .ref (md 52), .ref (md 53), .ref (md 54), .int m_seens, .int m_time, .ref (md 57), .ref (md 58)])), (md 13, .inl (cyI, 2, .inl m_keys))] := hD
  rcases b14003 with ⟨rfl, b14004, b14005⟩ | ⟨rfl, b14006⟩
  · skip
    have w14007 : 0 ≤ x1.toInt := by first | omega | assumption | rfl
    have w14008 : x1.toInt ≤ 3 := by first | omega | assumption | rfl
    exact W.zret (v := 1) hx hb hr (by decide) (fun t ht hW => ⟨⟨1, (), rfl, (Or.inl ⟨rfl, w14007, w14008⟩), cE.of ht hP hD [0, 1] (by decide) rfl⟩, hS.F ht⟩) hS.2.2 dX7_isKey_16
  · skip
    exact W.zret (v := 0) hx hb hr (by decide) (fun t ht hW => ⟨⟨0, (), rfl, (Or.inr rfl), cE.of ht hP hD [0, 1] (by decide) rfl⟩, hS.F ht⟩) hS.2.2 dX7_isKey_16
def wo_k_M_isMember : List Cond := [.methodLink RX7 320 yX7_isNode, .instanceMethod yX7_isNode, .selects RX7 yX7_isNode yX7_isNode, .initialized RX7, .methodLink RX7 323 yX7_placeOf, .instanceMethod yX7_placeOf, .selects RX7 yX7_placeOf yX7_placeOf]
def wq_k_M_isMember : List Cond := .code yX7_isMember cX7_isMember 2 (some .boolean) :: (wo_k_M_isMember ++ (wq_k_M_isNode ++ (wq_k_M_placeOf ++ [])))
theorem gd_k_M_isMember : Gd wq_k_M_isMember := gd_c (gd_a (gd_o (by decide +kernel)) (gd_a gd_k_M_isNode (gd_a gd_k_M_placeOf gd_0)))
abbrev wc_k_M_isMember (cyB cyI cyJ cyZ cyO : ClassId) (hM : Nat) (md : Nat → Nat) (m_nodes : Nat → Int32) (m_all : Nat → Int32) (m_taped : Int32) (m_size : Int32) (m_faultKind : Int32) (m_faultPlace : Int32) (m_at : Int32) (m_end : Int32) (m_token : Int32) (m_number : Int32) (m_bank : Int32) (m_rb : Int32) (m_codes : Int32) (m_within : Int32) (m_piled : Int32) (m_unitsInRule : Int32) (m_askFrom : Int32) (m_askTo : Int32) (m_askWrite : Int32) (m_askUnder : Int32) (m_askBack : Int32) (m_thoughtSlow : Int32) (m_came : Int32) (m_acts : Int32) (m_undone : Int32) (m_laid : Int32) (m_seens : Int32) (m_time : Int32) (m_name : Int64) (x1 : Int32) : va_W := [(hM, .inr (7, [.ref (md 0), .ref (md 1), .int m_taped, .int m_size, .int m_faultKind, .int m_faultPlace, .int m_at, .int m_end, .int m_token, .int m_number, .long m_name, .ref (md 11), .ref (md 12), .ref (md 13), .ref (md 14), .ref (md 15), .ref (md 16), .ref (md 17), .ref (md 18), .ref (md 19), .ref (md 20), .ref (md 21), .ref (md 22), .ref (md 23), .ref (md 24), .ref (md 25), .ref (md 26), .ref (md 27), .ref (md 28), .int m_bank, .int m_rb, .int m_codes, .int m_within, .int m_piled, .int m_unitsInRule, .int m_askFrom, .int m_askTo, .int m_askWrite, .int m_askUnder, .int m_askBack, .ref (md 40), .ref (md 41), .int m_thoughtSlow, .int m_came, .ref (md 44), .int m_acts, .int m_undone, .ref (md 47), .ref (md 48), .int m_laid, .ref (md 50), .ref (md 51), .ref (md 52), .ref (md 53), .ref (md 54), .int m_seens, .int m_time, .ref (md 57), .ref (md 58)])), (md 11, .inl (cyI, 2, .inl m_nodes)), (md 40, .inl (cyI, 520, .inl m_all))]
set_option maxHeartbeats 4000000 in
set_option maxRecDepth 100000 in
theorem k_M_isMember (l : Launch) (dC : Nat → ClassId) (dI : Nat → Nat → Nat) (cyB cyI cyJ cyZ cyO : ClassId) (hM : Nat) (md : Nat → Nat) (m_nodes : Nat → Int32) (m_all : Nat → Int32) (m_taped : Int32) (m_size : Int32) (m_faultKind : Int32) (m_faultPlace : Int32) (m_at : Int32) (m_end : Int32) (m_token : Int32) (m_number : Int32) (m_bank : Int32) (m_rb : Int32) (m_codes : Int32) (m_within : Int32) (m_piled : Int32) (m_unitsInRule : Int32) (m_askFrom : Int32) (m_askTo : Int32) (m_askWrite : Int32) (m_askUnder : Int32) (m_askBack : Int32) (m_thoughtSlow : Int32) (m_came : Int32) (m_acts : Int32) (m_undone : Int32) (m_laid : Int32) (m_seens : Int32) (m_time : Int32) (m_name : Int64) (x1 : Int32) (sz : Nat) (l_m_taped : 0 ≤ m_taped.toInt) (u_m_taped : m_taped.toInt ≤ 1600) (l_m_size : 0 ≤ m_size.toInt) (u_m_size : m_size.toInt ≤ 1600) (l_m_bank : 0 ≤ m_bank.toInt) (u_m_bank : m_bank.toInt ≤ 1) (l_m_rb : 0 ≤ m_rb.toInt) (u_m_rb : m_rb.toInt ≤ 1) (l_m_acts : 0 ≤ m_acts.toInt) (u_m_acts : m_acts.toInt ≤ 40) (l_m_undone : 0 ≤ m_undone.toInt) (u_m_undone : m_undone.toInt ≤ 40) (l_m_laid : 0 ≤ m_laid.toInt) (u_m_laid : m_laid.toInt ≤ 6) (l_m_seens : 0 ≤ m_seens.toInt) (u_m_seens : m_seens.toInt ≤ 30) (l_m_time : 0 ≤ m_time.toInt) (u_m_time : m_time.toInt ≤ 100000) (i0_m_nodes : In2 m_nodes 0 2 (0) (8)) (i0_m_all : In2 m_all 0 1 (0) (6)) (i1_m_all : In2 m_all 1 7 (0) (7)) (i2_m_all : In2 m_all 7 15 (0) (40)) (i3_m_all : In2 m_all 15 23 (0) (40)) (i4_m_all : In2 m_all 105 106 (-1) (7)) (i5_m_all : In2 m_all 109 110 (0) (999)) : Met l yX7_isMember wq_k_M_isMember ({ frames := 2, cells := 0, slots := 0, locals := 43 }) (va_Pc [.ref hM, .int x1] (cB (dC, dI) (kT cyB cyI cyJ cyZ cyO) (wc_k_M_isMember cyB cyI cyJ cyZ cyO hM md m_nodes m_all m_taped m_size m_faultKind m_faultPlace m_at m_end m_token m_number m_bank m_rb m_codes m_within m_piled m_unitsInRule m_askFrom m_askTo m_askWrite m_askUnder m_askBack m_thoughtSlow m_came m_acts m_undone m_laid m_seens m_time m_name x1) sz)) (va_Qi (fun (r : Int32) (u : Unit) => (((r = 1 ∧ (0 ≤ x1.toInt) ∧ (x1.toInt ≤ 7) ∧ (1 ≤ (m_all 0).toInt)) ∨ (r = 0)))) (fun (u : Unit) t => cE (dC, dI) (va_A (wc_k_M_isMember cyB cyI cyJ cyZ cyO hM md m_nodes m_all m_taped m_size m_faultKind m_faultPlace m_at m_end m_token m_number m_bank m_rb m_codes m_within m_piled m_unitsInRule m_askFrom m_askTo m_askWrite m_askUnder m_askBack m_thoughtSlow m_came m_acts m_undone m_laid m_seens m_time m_name x1) sz) ([(hM, .inr (7, [.ref (md 0), .ref (md 1), .int m_taped, .int m_size, .int m_faultKind, .int m_faultPlace, .int m_at, .int m_end, .int m_token, .int m_number, .long m_name, .ref (md 11), .ref (md 12), .ref (md 13), .ref (md 14), .ref (md 15), .ref (md 16), .ref (md 17), .ref (md 18), .ref (md 19), .ref (md 20), .ref (md 21), .ref (md 22), .ref (md 23), .ref (md 24), .ref (md 25), .ref (md 26), .ref (md 27), .ref (md 28), .int m_bank, .int m_rb, .int m_codes, .int m_within, .int m_piled, .int m_unitsInRule, .int m_askFrom, .int m_askTo, .int m_askWrite, .int m_askUnder, .int m_askBack, .ref (md 40), .ref (md 41), .int m_thoughtSlow, .int m_came, .ref (md 44), .int m_acts, .int m_undone, .ref (md 47), .ref (md 48), .int m_laid, .ref (md 50), .ref (md 51), .ref (md 52), .ref (md 53), .ref (md 54), .int m_seens, .int m_time, .ref (md 57), .ref (md 58)])), (md 11, .inl (cyI, 2, .inl m_nodes)), (md 40, .inl (cyI, 520, .inl m_all))]) t.heap) (va_A (wc_k_M_isMember cyB cyI cyJ cyZ cyO hM md m_nodes m_all m_taped m_size m_faultKind m_faultPlace m_at m_end m_token m_number m_bank m_rb m_codes m_within m_piled m_unitsInRule m_askFrom m_askTo m_askWrite m_askUnder m_askBack m_thoughtSlow m_came m_acts m_undone m_laid m_seens m_time m_name x1) sz)) 0 0 (va_A (wc_k_M_isMember cyB cyI cyJ cyZ cyO hM md m_nodes m_all m_taped m_size m_faultKind m_faultPlace m_at m_end m_token m_number m_bank m_rb m_codes m_within m_piled m_unitsInRule m_askFrom m_askTo m_askWrite m_askUnder m_askBack m_thoughtSlow m_came m_acts m_undone m_laid m_seens m_time m_name x1) sz) := by
  refine Met.ofW (cc := cX7_isMember) (maxL := 2) (ret := (some .boolean)) (by decide) rfl ?_
  intro p e s m args below meth c s₁ B hml hv
  obtain ⟨rfl, hsz, hP, hKN, hD0⟩ := hv
  have hx := B.exec
  have hb := B.bytes
  have hr := B.returns
  have hts := atoms_spec (ws := wq_k_M_isMember) B.pre
  have hown : s.vm.findClass RX7 = some m.cls := findClass_of_methodNamed B.named
  have hlocks := B.notSynchronized
  have hK := hKN.1
  have hfix : CallFix p m c cX7_isMember 2 s [.ref hM, .int x1].toArray wq_k_M_isMember RX7 := ⟨hx, hb, hml, hown, hts⟩
  subst hsz
  have hD := hD0.self (sz := s.heap.size)
  generalize hAe : va_A (wc_k_M_isMember cyB cyI cyJ cyZ cyO hM md m_nodes m_all m_taped m_size m_faultKind m_faultPlace m_at m_end m_token m_number m_bank m_rb m_codes m_within m_piled m_unitsInRule m_askFrom m_askTo m_askWrite m_askUnder m_askBack m_thoughtSlow m_came m_acts m_undone m_laid m_seens m_time m_name x1) s.heap.size = A at hD ⊢
  have hA : ∀ q : Nat, s.heap.size ≤ q → A q := fun q h => by rw [← hAe]; exact Or.inr h
  have hS : va_S A s.heap s.heap [] := va_S.rf
  have hl := lv_entry ([.ref hM, .int x1]) (n := 2) (Nat.le_of_ble_eq_true rfl)
  rw [lg_entry_eq]
  generalize (lg_sl ([.ref hM, .int x1]) ++ List.replicate (2 - (lg_sl ([.ref hM, .int x1])).length) Slot.unset).toArray = ls at hl ⊢
  have hl : lv_has ls 2 [(0, .ref hM), (1, .int x1)] := hl
  have ck0 : (0 : Int32).toInt = 0 := by decide
  have ck1 : (1 : Int32).toInt = 1 := by decide
  refine lv_aload_n hx hb dX7_isMember_0 rfl (lv_at hl 0 rfl) ?_
  refine lv_iload_n hx hb dX7_isMember_1 rfl (lv_at hl 1 rfl) ?_
  refine gf_i (wr := [(md 40, .inl (cyI, 520, .inl m_all))]) (va_runV (As := [.int x1]) (rest := []) hfix (k_M_isNode l dC dI cyB cyI cyJ cyZ cyO hM md m_nodes m_taped m_size m_faultKind m_faultPlace m_at m_end m_token m_number m_bank m_rb m_codes m_within m_piled m_unitsInRule m_askFrom m_askTo m_askWrite m_askUnder m_askBack m_thoughtSlow m_came m_acts m_undone m_laid m_seens m_time m_name x1 _ (by first | omega | assumption) (by first | omega | assumption) (by first | omega | assumption) (by first | omega | assumption) (by first | omega | assumption) (by first | omega | assumption) (by first | omega | assumption) (by first | omega | assumption) (by first | omega | assumption) (by first | omega | assumption) (by first | omega | assumption) (by first | omega | assumption) (by first | omega | assumption) (by first | omega | assumption) (by first | omega | assumption) (by first | omega | assumption) (by first | omega | assumption) (by first | omega | assumption) i0_m_nodes) (cwV 1 hts (gi_V (ow_m (k := 0) rfl) (ow_m (k := 1) rfl) (ow_m (k := 2) rfl) (ow_m (k := 3) rfl) (sb_c sb_l) gd_k_M_isNode) rfl rfl rfl (by decide +kernel) ⟨Nat.le_of_ble_eq_true rfl, Nat.le_of_ble_eq_true rfl⟩) (g_preV hKN hP hD [0, 1] rfl (by decide) 0 7 rfl rfl) rfl rfl hl.1 rfl (lv_room (Nat.le_of_ble_eq_true rfl)) dX7_isMember_2 ⟨Nat.le_of_ble_eq_true rfl, Nat.le_of_ble_eq_true rfl⟩) hP hD hS hA [0, 1] [2] rfl rfl (by decide) (by decide) (fun r14035 u14036 H locs qu14036 hP hD hS => ?_)
  have b14037 := qu14036
  have hP : va_P (dC, dI) vwCl [(md 40, .inl (cyI, 520, .inl m_all)), (hM, .inr (7, [.ref (md 0), .ref (md 1), .int m_taped, .int m_size, .int m_faultKind, .int m_faultPlace, .int m_at, .int m_end, .int m_token, .int m_number, .long m_name, .ref (md 11), .ref (md 12), .ref (md 13), .ref (md 14), .ref (md 15), .ref (md 16), .ref (md 17), .ref (md 18), .ref (md 19), .ref (md 20), .ref (md 21), .ref (md 22), .ref (md 23), .ref (md 24), .ref (md 25), .ref (md 26), .ref (md 27), .ref (md 28), .int m_bank, .int m_rb, .int m_codes, .int m_within, .int m_piled, .int m_unitsInRule, .int m_askFrom, .int m_askTo, .int m_askWrite, .int m_askUnder, .int m_askBack, .ref (md 40), .ref (md 41), .int m_thoughtSlow, .int m_came, .ref (md 44), .int m_acts, .int m_undone, .ref (md 47), .ref (md 48), .int m_laid, .ref (md 50), .ref (md 51), .ref (md 52), .ref (md 53), .ref (md 54), .int m_seens, .int m_time, .ref (md 57), .ref (md 58)])), (md 11, .inl (cyI, 2, .inl m_nodes))] H := hP
  have hD : va_D A [(md 40, .inl (cyI, 520, .inl m_all)), (hM, .inr (7, [.ref (md 0), .ref (md 1), .int m_taped, .int m_size, .int m_faultKind, .int m_faultPlace, .int m_at, .int m_end, .int m_token, .int m_number, .long m_name, .ref (md 11), .ref (md 12), .ref (md 13), .ref (md 14), .ref (md 15), .ref (md 16), .ref (md 17), .ref (md 18), .ref (md 19), .ref (md 20), .ref (md 21), .ref (md 22), .ref (md 23), .ref (md 24), .ref (md 25), .ref (md 26), .ref (md 27), .ref (md 28), .int m_bank, .int m_rb, .int m_codes, .int m_within, .int m_piled, .int m_unitsInRule, .int m_askFrom, .int m_askTo, .int m_askWrite, .int m_askUnder, .int m_askBack, .ref (md 40), .ref (md 41), .int m_thoughtSlow, .int m_came, .ref (md 44), .int m_acts, .int m_undone, .ref (md 47), .ref (md 48), .int m_laid, .ref (md 50), .ref (md 51), .ref (md 52), .ref (md 53), .ref (md 54), .int m_seens, .int m_time, .ref (md 57), .ref (md 58)])), (md 11, .inl (cyI, 2, .inl m_nodes))] := hD
  rcases b14037 with ⟨rfl, b14038, b14039⟩ | rfl
  · skip
    refine lv_if_eq (tgt := 20) hx hb dX7_isMember_5 (by decide) (fun c14040 => absurd c14040 (by decide)) (fun _ => ?_)
    refine lv_aload_n hx hb dX7_isMember_8 rfl (lv_at hl 0 rfl) ?_
    refine lv_iload_n hx hb dX7_isMember_9 rfl (lv_at hl 1 rfl) ?_
    refine gf_i (wr := [(md 11, .inl (cyI, 2, .inl m_nodes))]) (va_runV (As := [.int x1]) (rest := []) hfix (k_M_placeOf l dC dI cyB cyI cyJ cyZ cyO hM md m_all m_taped m_size m_faultKind m_faultPlace m_at m_end m_token m_number m_bank m_rb m_codes m_within m_piled m_unitsInRule m_askFrom m_askTo m_askWrite m_askUnder m_askBack m_thoughtSlow m_came m_acts m_undone m_laid m_seens m_time m_name x1 _ (by first | omega | assumption) (by first | omega | assumption) (by first | omega | assumption) (by first | omega | assumption) (by first | omega | assumption) (by first | omega | assumption) (by first | omega | assumption) (by first | omega | assumption) (by first | omega | assumption) (by first | omega | assumption) (by first | omega | assumption) (by first | omega | assumption) (by first | omega | assumption) (by first | omega | assumption) (by first | omega | assumption) (by first | omega | assumption) (by first | omega | assumption) (by first | omega | assumption) i0_m_all i1_m_all i2_m_all i3_m_all i4_m_all i5_m_all) (cwV 1 hts (gi_V (ow_m (k := 4) rfl) (ow_m (k := 5) rfl) (ow_m (k := 6) rfl) (ow_m (k := 3) rfl) (sb_c (sb_r sb_l)) gd_k_M_placeOf) rfl rfl rfl (by decide +kernel) ⟨Nat.le_of_ble_eq_true rfl, Nat.le_of_ble_eq_true rfl⟩) (g_preV hKN hP hD [1, 0] rfl (by decide) 0 7 rfl rfl) rfl rfl hl.1 rfl (lv_room (Nat.le_of_ble_eq_true rfl)) dX7_isMember_10 ⟨Nat.le_of_ble_eq_true rfl, Nat.le_of_ble_eq_true rfl⟩) hP hD hS hA [1, 0] [2] rfl rfl (by decide) (by decide) (fun r14041 u14042 H locs qu14042 hP hD hS => ?_)
    obtain ⟨b14043, b14044, b14045⟩ := qu14042
    have hP : va_P (dC, dI) vwCl [(md 11, .inl (cyI, 2, .inl m_nodes)), (hM, .inr (7, [.ref (md 0), .ref (md 1), .int m_taped, .int m_size, .int m_faultKind, .int m_faultPlace, .int m_at, .int m_end, .int m_token, .int m_number, .long m_name, .ref (md 11), .ref (md 12), .ref (md 13), .ref (md 14), .ref (md 15), .ref (md 16), .ref (md 17), .ref (md 18), .ref (md 19), .ref (md 20), .ref (md 21), .ref (md 22), .ref (md 23), .ref (md 24), .ref (md 25), .ref (md 26), .ref (md 27), .ref (md 28), .int m_bank, .int m_rb, .int m_codes, .int m_within, .int m_piled, .int m_unitsInRule, .int m_askFrom, .int m_askTo, .int m_askWrite, .int m_askUnder, .int m_askBack, .ref (md 40), .ref (md 41), .int m_thoughtSlow, .int m_came, .ref (md 44), .int m_acts, .int m_undone, .ref (md 47), .ref (md 48), .int m_laid, .ref (md 50), .ref (md 51), .ref (md 52), .ref (md 53), .ref (md 54), .int m_seens, .int m_time, .ref (md 57), .ref (md 58)])), (md 40, .inl (cyI, 520, .inl m_all))] H := hP
    have hD : va_D A [(md 11, .inl (cyI, 2, .inl m_nodes)), (hM, .inr (7, [.ref (md 0), .ref (md 1), .int m_taped, .int m_size, .int m_faultKind, .int m_faultPlace, .int m_at, .int m_end, .int m_token, .int m_number, .long m_name, .ref (md 11), .ref (md 12), .ref (md 13), .ref (md 14), .ref (md 15), .ref (md 16), .ref (md 17), .ref (md 18), .ref (md 19), .ref (md 20), .ref (md 21), .ref (md 22), .ref (md 23), .ref (md 24), .ref (md 25), .ref (md 26), .ref (md 27), .ref (md 28), .int m_bank, .int m_rb, .int m_codes, .int m_within, .int m_piled, .int m_unitsInRule, .int m_askFrom, .int m_askTo, .int m_askWrite, .int m_askUnder, .int m_askBack, .ref (md 40), .ref (md 41), .int m_thoughtSlow, .int m_came, .ref (md 44), .int m_acts, .int m_undone, .ref (md 47), .ref (md 48), .int m_laid, .ref (md 50), .ref (md 51), .ref (md 52), .ref (md 53), .ref (md 54), .int m_seens, .int m_time, .ref (md 57), .ref (md 58)])), (md 40, .inl (cyI, 520, .inl m_all))] := hD
    refine lv_if_lt (tgt := 20) hx hb dX7_isMember_13 (by decide) (fun c14046 => ?_) (fun c14046 => ?_)
    · have c14046 := i_lt (a := r14041.toInt) (b := 0) c14046 rfl (by decide)
      refine lv_iconst (v := 0) hx hb dX7_isMember_20 (by decide) ?_
      exact W.zret (v := 0) hx hb hr (by decide) (fun t ht hW => ⟨⟨0, (), rfl, (Or.inr rfl), cE.of ht hP hD [1, 0, 2] (by decide) rfl⟩, hS.F ht⟩) hS.2.2 dX7_isMember_21
    · have c14046 := i_nlt (a := r14041.toInt) (b := 0) c14046 rfl (by decide)
      refine lv_iconst (v := 1) hx hb dX7_isMember_16 (by decide) ?_
      refine lv_goto (tgt := 21) hx hb dX7_isMember_17 (by decide) ?_
      have w14047 : 0 ≤ x1.toInt := by first | omega | assumption | rfl
      have w14048 : x1.toInt ≤ 7 := by first | omega | assumption | rfl
      have w14049 : 1 ≤ (m_all 0).toInt := by first | omega | assumption | rfl
      exact W.zret (v := 1) hx hb hr (by decide) (fun t ht hW => ⟨⟨1, (), rfl, (Or.inl ⟨rfl, w14047, w14048, w14049⟩), cE.of ht hP hD [1, 0, 2] (by decide) rfl⟩, hS.F ht⟩) hS.2.2 dX7_isMember_21
  · skip
    refine lv_if_eq (tgt := 20) hx hb dX7_isMember_5 (by decide) (fun _ => ?_) (fun c14050 => absurd (by decide) c14050)
    refine lv_iconst (v := 0) hx hb dX7_isMember_20 (by decide) ?_
    exact W.zret (v := 0) hx hb hr (by decide) (fun t ht hW => ⟨⟨0, (), rfl, (Or.inr rfl), cE.of ht hP hD [1, 2, 0] (by decide) rfl⟩, hS.F ht⟩) hS.2.2 dX7_isMember_21
def wo_k_M_two : List Cond := []
def wq_k_M_two : List Cond := .code yX7_two cX7_two 3 (some .int) :: (wo_k_M_two ++ [])
theorem gd_k_M_two : Gd wq_k_M_two := gd_c (gd_a (gd_o (by decide +kernel)) gd_0)
abbrev wc_k_M_two (cyB cyI cyJ cyZ cyO : ClassId) (x0 : Int32) (x1 : Int32) (x2 : Int32) : va_W := []
set_option maxHeartbeats 4000000 in
set_option maxRecDepth 100000 in
theorem k_M_two (l : Launch) (dC : Nat → ClassId) (dI : Nat → Nat → Nat) (cyB cyI cyJ cyZ cyO : ClassId) (x0 : Int32) (x1 : Int32) (x2 : Int32) (sz : Nat) : Met l yX7_two wq_k_M_two ({ frames := 0, cells := 0, slots := 0, locals := 0 }) (va_Pc [.int x0, .int x1, .int x2] (cB (dC, dI) (kT cyB cyI cyJ cyZ cyO) (wc_k_M_two cyB cyI cyJ cyZ cyO x0 x1 x2) sz)) (va_Qi (fun (r : Int32) (u : Unit) => True) (fun (u : Unit) t => cE (dC, dI) (va_A (wc_k_M_two cyB cyI cyJ cyZ cyO x0 x1 x2) sz) ([]) t.heap) (va_A (wc_k_M_two cyB cyI cyJ cyZ cyO x0 x1 x2) sz)) 0 0 (va_A (wc_k_M_two cyB cyI cyJ cyZ cyO x0 x1 x2) sz) := by
  refine Met.ofW (cc := cX7_two) (maxL := 3) (ret := (some .int)) (by decide) rfl ?_
  intro p e s m args below meth c s₁ B hml hv
  obtain ⟨rfl, hsz, hP, hKN, hD0⟩ := hv
  have hx := B.exec
  have hb := B.bytes
  have hr := B.returns
  have hts := atoms_spec (ws := wq_k_M_two) B.pre
  have hown : s.vm.findClass RX7 = some m.cls := findClass_of_methodNamed B.named
  have hlocks := B.notSynchronized
  have hK := hKN.1
  have hfix : CallFix p m c cX7_two 3 s [.int x0, .int x1, .int x2].toArray wq_k_M_two RX7 := ⟨hx, hb, hml, hown, hts⟩
  subst hsz
  have hD := hD0.self (sz := s.heap.size)
  generalize hAe : va_A (wc_k_M_two cyB cyI cyJ cyZ cyO x0 x1 x2) s.heap.size = A at hD ⊢
  have hA : ∀ q : Nat, s.heap.size ≤ q → A q := fun q h => by rw [← hAe]; exact Or.inr h
  have hS : va_S A s.heap s.heap [] := va_S.rf
  have hl := lv_entry ([.int x0, .int x1, .int x2]) (n := 3) (Nat.le_of_ble_eq_true rfl)
  rw [lg_entry_eq]
  generalize (lg_sl ([.int x0, .int x1, .int x2]) ++ List.replicate (3 - (lg_sl ([.int x0, .int x1, .int x2])).length) Slot.unset).toArray = ls at hl ⊢
  have hl : lv_has ls 3 [(0, .int x0), (1, .int x1), (2, .int x2)] := hl
  refine lv_iload_n hx hb dX7_two_0 rfl (lv_at hl 0 rfl) ?_
  by_cases c14125 : x0 = 37
  · have c14125i := i_eq (b := 37) c14125 rfl (by decide)
    refine lv_tableIn (tgt := 144) hx hb dX7_two_1 (by rw [c14125]; decide) (by rw [c14125]; decide) (by first | (rw [c14125]; done) | (rw [c14125]; rfl)) (by decide) ?_
    refine lv_iload_n hx hb dX7_two_144 rfl (lv_at hl 2 rfl) ?_
    refine lv_if_ne (tgt := 152) hx hb dX7_two_145 (by decide) (fun c14126 => ?_) (fun c14126 => ?_)
    · have c14126 := i_ne (a := x2.toInt) (b := 0) c14126 rfl (by decide)
      refine lv_iload_n hx hb dX7_two_152 rfl (lv_at hl 1 rfl) ?_
      refine lv_iload_n hx hb dX7_two_153 rfl (lv_at hl 2 rfl) ?_
      refine lv_irem hx hb dX7_two_154 (fun h => by have h := i_eq (b := 0) h rfl (by decide); omega) ?_
      refine lv_topi (fun z14127 ez14127 => ?_)
      exact W.iret (v := z14127) hx hb hr (fun t ht hW => ⟨⟨z14127, (), rfl, trivial, cE.of ht hP hD [] (by decide) rfl⟩, hS.F ht⟩) hS.2.2 dX7_two_155
    · have c14126 := i_eq (a := x2.toInt) (b := 0) c14126 rfl (by decide)
      refine lv_iconst (v := 0) hx hb dX7_two_148 (by decide) ?_
      refine lv_goto (tgt := 155) hx hb dX7_two_149 (by decide) ?_
      exact W.iret (v := 0) hx hb hr (fun t ht hW => ⟨⟨0, (), rfl, trivial, cE.of ht hP hD [] (by decide) rfl⟩, hS.F ht⟩) hS.2.2 dX7_two_155
  have c14125i := i_ne (b := 37) c14125 rfl (by decide)
  by_cases c14128 : x0 = 38
  · have c14128i := i_eq (b := 38) c14128 rfl (by decide)
    refine lv_tableIn (tgt := 189) hx hb dX7_two_1 (by rw [c14128]; decide) (by rw [c14128]; decide) (by first | (rw [c14128]; done) | (rw [c14128]; rfl)) (by decide) ?_
    refine lv_iload_n hx hb dX7_two_189 rfl (lv_at hl 1 rfl) ?_
    refine lv_if_eq (tgt := 201) hx hb dX7_two_190 (by decide) (fun c14129 => ?_) (fun c14129 => ?_)
    · have c14129 := i_eq (a := x1.toInt) (b := 0) c14129 rfl (by decide)
      refine lv_iconst (v := 0) hx hb dX7_two_201 (by decide) ?_
      exact W.iret (v := 0) hx hb hr (fun t ht hW => ⟨⟨0, (), rfl, trivial, cE.of ht hP hD [] (by decide) rfl⟩, hS.F ht⟩) hS.2.2 dX7_two_202
    · have c14129 := i_ne (a := x1.toInt) (b := 0) c14129 rfl (by decide)
      refine lv_iload_n hx hb dX7_two_193 rfl (lv_at hl 2 rfl) ?_
      refine lv_if_eq (tgt := 201) hx hb dX7_two_194 (by decide) (fun c14130 => ?_) (fun c14130 => ?_)
      · have c14130 := i_eq (a := x2.toInt) (b := 0) c14130 rfl (by decide)
        refine lv_iconst (v := 0) hx hb dX7_two_201 (by decide) ?_
        exact W.iret (v := 0) hx hb hr (fun t ht hW => ⟨⟨0, (), rfl, trivial, cE.of ht hP hD [] (by decide) rfl⟩, hS.F ht⟩) hS.2.2 dX7_two_202
      · have c14130 := i_ne (a := x2.toInt) (b := 0) c14130 rfl (by decide)
        refine lv_iconst (v := 1) hx hb dX7_two_197 (by decide) ?_
        refine lv_goto (tgt := 202) hx hb dX7_two_198 (by decide) ?_
        exact W.iret (v := 1) hx hb hr (fun t ht hW => ⟨⟨1, (), rfl, trivial, cE.of ht hP hD [] (by decide) rfl⟩, hS.F ht⟩) hS.2.2 dX7_two_202
  have c14128i := i_ne (b := 38) c14128 rfl (by decide)
  by_cases c14131 : x0 = 39
  · have c14131i := i_eq (b := 39) c14131 rfl (by decide)
    refine lv_tableIn (tgt := 203) hx hb dX7_two_1 (by rw [c14131]; decide) (by rw [c14131]; decide) (by first | (rw [c14131]; done) | (rw [c14131]; rfl)) (by decide) ?_
    refine lv_iload_n hx hb dX7_two_203 rfl (lv_at hl 1 rfl) ?_
    refine lv_if_ne (tgt := 211) hx hb dX7_two_204 (by decide) (fun c14132 => ?_) (fun c14132 => ?_)
    · have c14132 := i_ne (a := x1.toInt) (b := 0) c14132 rfl (by decide)
      refine lv_iconst (v := 1) hx hb dX7_two_211 (by decide) ?_
      refine lv_goto (tgt := 216) hx hb dX7_two_212 (by decide) ?_
      exact W.iret (v := 1) hx hb hr (fun t ht hW => ⟨⟨1, (), rfl, trivial, cE.of ht hP hD [] (by decide) rfl⟩, hS.F ht⟩) hS.2.2 dX7_two_216
    · have c14132 := i_eq (a := x1.toInt) (b := 0) c14132 rfl (by decide)
      refine lv_iload_n hx hb dX7_two_207 rfl (lv_at hl 2 rfl) ?_
      refine lv_if_eq (tgt := 215) hx hb dX7_two_208 (by decide) (fun c14133 => ?_) (fun c14133 => ?_)
      · have c14133 := i_eq (a := x2.toInt) (b := 0) c14133 rfl (by decide)
        refine lv_iconst (v := 0) hx hb dX7_two_215 (by decide) ?_
        exact W.iret (v := 0) hx hb hr (fun t ht hW => ⟨⟨0, (), rfl, trivial, cE.of ht hP hD [] (by decide) rfl⟩, hS.F ht⟩) hS.2.2 dX7_two_216
      · have c14133 := i_ne (a := x2.toInt) (b := 0) c14133 rfl (by decide)
        refine lv_iconst (v := 1) hx hb dX7_two_211 (by decide) ?_
        refine lv_goto (tgt := 216) hx hb dX7_two_212 (by decide) ?_
        exact W.iret (v := 1) hx hb hr (fun t ht hW => ⟨⟨1, (), rfl, trivial, cE.of ht hP hD [] (by decide) rfl⟩, hS.F ht⟩) hS.2.2 dX7_two_216
  have c14131i := i_ne (b := 39) c14131 rfl (by decide)
  by_cases c14134 : x0 = 40
  · have c14134i := i_eq (b := 40) c14134 rfl (by decide)
    refine lv_tableIn (tgt := 203) hx hb dX7_two_1 (by rw [c14134]; decide) (by rw [c14134]; decide) (by first | (rw [c14134]; done) | (rw [c14134]; rfl)) (by decide) ?_
    refine lv_iload_n hx hb dX7_two_203 rfl (lv_at hl 1 rfl) ?_
    refine lv_if_ne (tgt := 211) hx hb dX7_two_204 (by decide) (fun c14135 => ?_) (fun c14135 => ?_)
    · have c14135 := i_ne (a := x1.toInt) (b := 0) c14135 rfl (by decide)
      refine lv_iconst (v := 1) hx hb dX7_two_211 (by decide) ?_
      refine lv_goto (tgt := 216) hx hb dX7_two_212 (by decide) ?_
      exact W.iret (v := 1) hx hb hr (fun t ht hW => ⟨⟨1, (), rfl, trivial, cE.of ht hP hD [] (by decide) rfl⟩, hS.F ht⟩) hS.2.2 dX7_two_216
    · have c14135 := i_eq (a := x1.toInt) (b := 0) c14135 rfl (by decide)
      refine lv_iload_n hx hb dX7_two_207 rfl (lv_at hl 2 rfl) ?_
      refine lv_if_eq (tgt := 215) hx hb dX7_two_208 (by decide) (fun c14136 => ?_) (fun c14136 => ?_)
      · have c14136 := i_eq (a := x2.toInt) (b := 0) c14136 rfl (by decide)
        refine lv_iconst (v := 0) hx hb dX7_two_215 (by decide) ?_
        exact W.iret (v := 0) hx hb hr (fun t ht hW => ⟨⟨0, (), rfl, trivial, cE.of ht hP hD [] (by decide) rfl⟩, hS.F ht⟩) hS.2.2 dX7_two_216
      · have c14136 := i_ne (a := x2.toInt) (b := 0) c14136 rfl (by decide)
        refine lv_iconst (v := 1) hx hb dX7_two_211 (by decide) ?_
        refine lv_goto (tgt := 216) hx hb dX7_two_212 (by decide) ?_
        exact W.iret (v := 1) hx hb hr (fun t ht hW => ⟨⟨1, (), rfl, trivial, cE.of ht hP hD [] (by decide) rfl⟩, hS.F ht⟩) hS.2.2 dX7_two_216
  have c14134i := i_ne (b := 40) c14134 rfl (by decide)
  by_cases c14137 : x0 = 41
  · have c14137i := i_eq (b := 41) c14137 rfl (by decide)
    refine lv_tableIn (tgt := 203) hx hb dX7_two_1 (by rw [c14137]; decide) (by rw [c14137]; decide) (by first | (rw [c14137]; done) | (rw [c14137]; rfl)) (by decide) ?_
    refine lv_iload_n hx hb dX7_two_203 rfl (lv_at hl 1 rfl) ?_
    refine lv_if_ne (tgt := 211) hx hb dX7_two_204 (by decide) (fun c14138 => ?_) (fun c14138 => ?_)
    · have c14138 := i_ne (a := x1.toInt) (b := 0) c14138 rfl (by decide)
      refine lv_iconst (v := 1) hx hb dX7_two_211 (by decide) ?_
      refine lv_goto (tgt := 216) hx hb dX7_two_212 (by decide) ?_
      exact W.iret (v := 1) hx hb hr (fun t ht hW => ⟨⟨1, (), rfl, trivial, cE.of ht hP hD [] (by decide) rfl⟩, hS.F ht⟩) hS.2.2 dX7_two_216
    · have c14138 := i_eq (a := x1.toInt) (b := 0) c14138 rfl (by decide)
      refine lv_iload_n hx hb dX7_two_207 rfl (lv_at hl 2 rfl) ?_
      refine lv_if_eq (tgt := 215) hx hb dX7_two_208 (by decide) (fun c14139 => ?_) (fun c14139 => ?_)
      · have c14139 := i_eq (a := x2.toInt) (b := 0) c14139 rfl (by decide)
        refine lv_iconst (v := 0) hx hb dX7_two_215 (by decide) ?_
        exact W.iret (v := 0) hx hb hr (fun t ht hW => ⟨⟨0, (), rfl, trivial, cE.of ht hP hD [] (by decide) rfl⟩, hS.F ht⟩) hS.2.2 dX7_two_216
      · have c14139 := i_ne (a := x2.toInt) (b := 0) c14139 rfl (by decide)
        refine lv_iconst (v := 1) hx hb dX7_two_211 (by decide) ?_
        refine lv_goto (tgt := 216) hx hb dX7_two_212 (by decide) ?_
        exact W.iret (v := 1) hx hb hr (fun t ht hW => ⟨⟨1, (), rfl, trivial, cE.of ht hP hD [] (by decide) rfl⟩, hS.F ht⟩) hS.2.2 dX7_two_216
  have c14137i := i_ne (b := 41) c14137 rfl (by decide)
  by_cases c14140 : x0 = 42
  · have c14140i := i_eq (b := 42) c14140 rfl (by decide)
    refine lv_tableIn (tgt := 128) hx hb dX7_two_1 (by rw [c14140]; decide) (by rw [c14140]; decide) (by first | (rw [c14140]; done) | (rw [c14140]; rfl)) (by decide) ?_
    refine lv_iload_n hx hb dX7_two_128 rfl (lv_at hl 1 rfl) ?_
    refine lv_iload_n hx hb dX7_two_129 rfl (lv_at hl 2 rfl) ?_
    refine lv_imul hx hb dX7_two_130 ?_
    refine lv_topi (fun z14141 ez14141 => ?_)
    exact W.iret (v := z14141) hx hb hr (fun t ht hW => ⟨⟨z14141, (), rfl, trivial, cE.of ht hP hD [] (by decide) rfl⟩, hS.F ht⟩) hS.2.2 dX7_two_131
  have c14140i := i_ne (b := 42) c14140 rfl (by decide)
  by_cases c14142 : x0 = 43
  · have c14142i := i_eq (b := 43) c14142 rfl (by decide)
    refine lv_tableIn (tgt := 120) hx hb dX7_two_1 (by rw [c14142]; decide) (by rw [c14142]; decide) (by first | (rw [c14142]; done) | (rw [c14142]; rfl)) (by decide) ?_
    refine lv_iload_n hx hb dX7_two_120 rfl (lv_at hl 1 rfl) ?_
    refine lv_iload_n hx hb dX7_two_121 rfl (lv_at hl 2 rfl) ?_
    refine lv_iadd hx hb dX7_two_122 ?_
    refine lv_topi (fun z14143 ez14143 => ?_)
    exact W.iret (v := z14143) hx hb hr (fun t ht hW => ⟨⟨z14143, (), rfl, trivial, cE.of ht hP hD [] (by decide) rfl⟩, hS.F ht⟩) hS.2.2 dX7_two_123
  have c14142i := i_ne (b := 43) c14142 rfl (by decide)
  by_cases c14144 : x0 = 44
  · have c14144i := i_eq (b := 44) c14144 rfl (by decide)
    refine lv_tableIn (tgt := 203) hx hb dX7_two_1 (by rw [c14144]; decide) (by rw [c14144]; decide) (by first | (rw [c14144]; done) | (rw [c14144]; rfl)) (by decide) ?_
    refine lv_iload_n hx hb dX7_two_203 rfl (lv_at hl 1 rfl) ?_
    refine lv_if_ne (tgt := 211) hx hb dX7_two_204 (by decide) (fun c14145 => ?_) (fun c14145 => ?_)
    · have c14145 := i_ne (a := x1.toInt) (b := 0) c14145 rfl (by decide)
      refine lv_iconst (v := 1) hx hb dX7_two_211 (by decide) ?_
      refine lv_goto (tgt := 216) hx hb dX7_two_212 (by decide) ?_
      exact W.iret (v := 1) hx hb hr (fun t ht hW => ⟨⟨1, (), rfl, trivial, cE.of ht hP hD [] (by decide) rfl⟩, hS.F ht⟩) hS.2.2 dX7_two_216
    · have c14145 := i_eq (a := x1.toInt) (b := 0) c14145 rfl (by decide)
      refine lv_iload_n hx hb dX7_two_207 rfl (lv_at hl 2 rfl) ?_
      refine lv_if_eq (tgt := 215) hx hb dX7_two_208 (by decide) (fun c14146 => ?_) (fun c14146 => ?_)
      · have c14146 := i_eq (a := x2.toInt) (b := 0) c14146 rfl (by decide)
        refine lv_iconst (v := 0) hx hb dX7_two_215 (by decide) ?_
        exact W.iret (v := 0) hx hb hr (fun t ht hW => ⟨⟨0, (), rfl, trivial, cE.of ht hP hD [] (by decide) rfl⟩, hS.F ht⟩) hS.2.2 dX7_two_216
      · have c14146 := i_ne (a := x2.toInt) (b := 0) c14146 rfl (by decide)
        refine lv_iconst (v := 1) hx hb dX7_two_211 (by decide) ?_
        refine lv_goto (tgt := 216) hx hb dX7_two_212 (by decide) ?_
        exact W.iret (v := 1) hx hb hr (fun t ht hW => ⟨⟨1, (), rfl, trivial, cE.of ht hP hD [] (by decide) rfl⟩, hS.F ht⟩) hS.2.2 dX7_two_216
  have c14144i := i_ne (b := 44) c14144 rfl (by decide)
  by_cases c14147 : x0 = 45
  · have c14147i := i_eq (b := 45) c14147 rfl (by decide)
    refine lv_tableIn (tgt := 124) hx hb dX7_two_1 (by rw [c14147]; decide) (by rw [c14147]; decide) (by first | (rw [c14147]; done) | (rw [c14147]; rfl)) (by decide) ?_
    refine lv_iload_n hx hb dX7_two_124 rfl (lv_at hl 1 rfl) ?_
    refine lv_iload_n hx hb dX7_two_125 rfl (lv_at hl 2 rfl) ?_
    refine lv_isub hx hb dX7_two_126 ?_
    refine lv_topi (fun z14148 ez14148 => ?_)
    exact W.iret (v := z14148) hx hb hr (fun t ht hW => ⟨⟨z14148, (), rfl, trivial, cE.of ht hP hD [] (by decide) rfl⟩, hS.F ht⟩) hS.2.2 dX7_two_127
  have c14147i := i_ne (b := 45) c14147 rfl (by decide)
  by_cases c14149 : x0 = 46
  · have c14149i := i_eq (b := 46) c14149 rfl (by decide)
    refine lv_tableIn (tgt := 203) hx hb dX7_two_1 (by rw [c14149]; decide) (by rw [c14149]; decide) (by first | (rw [c14149]; done) | (rw [c14149]; rfl)) (by decide) ?_
    refine lv_iload_n hx hb dX7_two_203 rfl (lv_at hl 1 rfl) ?_
    refine lv_if_ne (tgt := 211) hx hb dX7_two_204 (by decide) (fun c14150 => ?_) (fun c14150 => ?_)
    · have c14150 := i_ne (a := x1.toInt) (b := 0) c14150 rfl (by decide)
      refine lv_iconst (v := 1) hx hb dX7_two_211 (by decide) ?_
      refine lv_goto (tgt := 216) hx hb dX7_two_212 (by decide) ?_
      exact W.iret (v := 1) hx hb hr (fun t ht hW => ⟨⟨1, (), rfl, trivial, cE.of ht hP hD [] (by decide) rfl⟩, hS.F ht⟩) hS.2.2 dX7_two_216
    · have c14150 := i_eq (a := x1.toInt) (b := 0) c14150 rfl (by decide)
      refine lv_iload_n hx hb dX7_two_207 rfl (lv_at hl 2 rfl) ?_
      refine lv_if_eq (tgt := 215) hx hb dX7_two_208 (by decide) (fun c14151 => ?_) (fun c14151 => ?_)
      · have c14151 := i_eq (a := x2.toInt) (b := 0) c14151 rfl (by decide)
        refine lv_iconst (v := 0) hx hb dX7_two_215 (by decide) ?_
        exact W.iret (v := 0) hx hb hr (fun t ht hW => ⟨⟨0, (), rfl, trivial, cE.of ht hP hD [] (by decide) rfl⟩, hS.F ht⟩) hS.2.2 dX7_two_216
      · have c14151 := i_ne (a := x2.toInt) (b := 0) c14151 rfl (by decide)
        refine lv_iconst (v := 1) hx hb dX7_two_211 (by decide) ?_
        refine lv_goto (tgt := 216) hx hb dX7_two_212 (by decide) ?_
        exact W.iret (v := 1) hx hb hr (fun t ht hW => ⟨⟨1, (), rfl, trivial, cE.of ht hP hD [] (by decide) rfl⟩, hS.F ht⟩) hS.2.2 dX7_two_216
  have c14149i := i_ne (b := 46) c14149 rfl (by decide)
  by_cases c14152 : x0 = 47
  · have c14152i := i_eq (b := 47) c14152 rfl (by decide)
    refine lv_tableIn (tgt := 132) hx hb dX7_two_1 (by rw [c14152]; decide) (by rw [c14152]; decide) (by first | (rw [c14152]; done) | (rw [c14152]; rfl)) (by decide) ?_
    refine lv_iload_n hx hb dX7_two_132 rfl (lv_at hl 2 rfl) ?_
    refine lv_if_ne (tgt := 140) hx hb dX7_two_133 (by decide) (fun c14153 => ?_) (fun c14153 => ?_)
    · have c14153 := i_ne (a := x2.toInt) (b := 0) c14153 rfl (by decide)
      refine lv_iload_n hx hb dX7_two_140 rfl (lv_at hl 1 rfl) ?_
      refine lv_iload_n hx hb dX7_two_141 rfl (lv_at hl 2 rfl) ?_
      refine lv_idiv hx hb dX7_two_142 (fun h => by have h := i_eq (b := 0) h rfl (by decide); omega) ?_
      refine lv_topi (fun z14154 ez14154 => ?_)
      exact W.iret (v := z14154) hx hb hr (fun t ht hW => ⟨⟨z14154, (), rfl, trivial, cE.of ht hP hD [] (by decide) rfl⟩, hS.F ht⟩) hS.2.2 dX7_two_143
    · have c14153 := i_eq (a := x2.toInt) (b := 0) c14153 rfl (by decide)
      refine lv_iconst (v := 0) hx hb dX7_two_136 (by decide) ?_
      refine lv_goto (tgt := 143) hx hb dX7_two_137 (by decide) ?_
      exact W.iret (v := 0) hx hb hr (fun t ht hW => ⟨⟨0, (), rfl, trivial, cE.of ht hP hD [] (by decide) rfl⟩, hS.F ht⟩) hS.2.2 dX7_two_143
  have c14152i := i_ne (b := 47) c14152 rfl (by decide)
  by_cases c14155 : x0 = 48
  · have c14155i := i_eq (b := 48) c14155 rfl (by decide)
    refine lv_tableIn (tgt := 203) hx hb dX7_two_1 (by rw [c14155]; decide) (by rw [c14155]; decide) (by first | (rw [c14155]; done) | (rw [c14155]; rfl)) (by decide) ?_
    refine lv_iload_n hx hb dX7_two_203 rfl (lv_at hl 1 rfl) ?_
    refine lv_if_ne (tgt := 211) hx hb dX7_two_204 (by decide) (fun c14156 => ?_) (fun c14156 => ?_)
    · have c14156 := i_ne (a := x1.toInt) (b := 0) c14156 rfl (by decide)
      refine lv_iconst (v := 1) hx hb dX7_two_211 (by decide) ?_
      refine lv_goto (tgt := 216) hx hb dX7_two_212 (by decide) ?_
      exact W.iret (v := 1) hx hb hr (fun t ht hW => ⟨⟨1, (), rfl, trivial, cE.of ht hP hD [] (by decide) rfl⟩, hS.F ht⟩) hS.2.2 dX7_two_216
    · have c14156 := i_eq (a := x1.toInt) (b := 0) c14156 rfl (by decide)
      refine lv_iload_n hx hb dX7_two_207 rfl (lv_at hl 2 rfl) ?_
      refine lv_if_eq (tgt := 215) hx hb dX7_two_208 (by decide) (fun c14157 => ?_) (fun c14157 => ?_)
      · have c14157 := i_eq (a := x2.toInt) (b := 0) c14157 rfl (by decide)
        refine lv_iconst (v := 0) hx hb dX7_two_215 (by decide) ?_
        exact W.iret (v := 0) hx hb hr (fun t ht hW => ⟨⟨0, (), rfl, trivial, cE.of ht hP hD [] (by decide) rfl⟩, hS.F ht⟩) hS.2.2 dX7_two_216
      · have c14157 := i_ne (a := x2.toInt) (b := 0) c14157 rfl (by decide)
        refine lv_iconst (v := 1) hx hb dX7_two_211 (by decide) ?_
        refine lv_goto (tgt := 216) hx hb dX7_two_212 (by decide) ?_
        exact W.iret (v := 1) hx hb hr (fun t ht hW => ⟨⟨1, (), rfl, trivial, cE.of ht hP hD [] (by decide) rfl⟩, hS.F ht⟩) hS.2.2 dX7_two_216
  have c14155i := i_ne (b := 48) c14155 rfl (by decide)
  by_cases c14158 : x0 = 49
  · have c14158i := i_eq (b := 49) c14158 rfl (by decide)
    refine lv_tableIn (tgt := 203) hx hb dX7_two_1 (by rw [c14158]; decide) (by rw [c14158]; decide) (by first | (rw [c14158]; done) | (rw [c14158]; rfl)) (by decide) ?_
    refine lv_iload_n hx hb dX7_two_203 rfl (lv_at hl 1 rfl) ?_
    refine lv_if_ne (tgt := 211) hx hb dX7_two_204 (by decide) (fun c14159 => ?_) (fun c14159 => ?_)
    · have c14159 := i_ne (a := x1.toInt) (b := 0) c14159 rfl (by decide)
      refine lv_iconst (v := 1) hx hb dX7_two_211 (by decide) ?_
      refine lv_goto (tgt := 216) hx hb dX7_two_212 (by decide) ?_
      exact W.iret (v := 1) hx hb hr (fun t ht hW => ⟨⟨1, (), rfl, trivial, cE.of ht hP hD [] (by decide) rfl⟩, hS.F ht⟩) hS.2.2 dX7_two_216
    · have c14159 := i_eq (a := x1.toInt) (b := 0) c14159 rfl (by decide)
      refine lv_iload_n hx hb dX7_two_207 rfl (lv_at hl 2 rfl) ?_
      refine lv_if_eq (tgt := 215) hx hb dX7_two_208 (by decide) (fun c14160 => ?_) (fun c14160 => ?_)
      · have c14160 := i_eq (a := x2.toInt) (b := 0) c14160 rfl (by decide)
        refine lv_iconst (v := 0) hx hb dX7_two_215 (by decide) ?_
        exact W.iret (v := 0) hx hb hr (fun t ht hW => ⟨⟨0, (), rfl, trivial, cE.of ht hP hD [] (by decide) rfl⟩, hS.F ht⟩) hS.2.2 dX7_two_216
      · have c14160 := i_ne (a := x2.toInt) (b := 0) c14160 rfl (by decide)
        refine lv_iconst (v := 1) hx hb dX7_two_211 (by decide) ?_
        refine lv_goto (tgt := 216) hx hb dX7_two_212 (by decide) ?_
        exact W.iret (v := 1) hx hb hr (fun t ht hW => ⟨⟨1, (), rfl, trivial, cE.of ht hP hD [] (by decide) rfl⟩, hS.F ht⟩) hS.2.2 dX7_two_216
  have c14158i := i_ne (b := 49) c14158 rfl (by decide)
  by_cases c14161 : x0 = 50
  · have c14161i := i_eq (b := 50) c14161 rfl (by decide)
    refine lv_tableIn (tgt := 203) hx hb dX7_two_1 (by rw [c14161]; decide) (by rw [c14161]; decide) (by first | (rw [c14161]; done) | (rw [c14161]; rfl)) (by decide) ?_
    refine lv_iload_n hx hb dX7_two_203 rfl (lv_at hl 1 rfl) ?_
    refine lv_if_ne (tgt := 211) hx hb dX7_two_204 (by decide) (fun c14162 => ?_) (fun c14162 => ?_)
    · have c14162 := i_ne (a := x1.toInt) (b := 0) c14162 rfl (by decide)
      refine lv_iconst (v := 1) hx hb dX7_two_211 (by decide) ?_
      refine lv_goto (tgt := 216) hx hb dX7_two_212 (by decide) ?_
      exact W.iret (v := 1) hx hb hr (fun t ht hW => ⟨⟨1, (), rfl, trivial, cE.of ht hP hD [] (by decide) rfl⟩, hS.F ht⟩) hS.2.2 dX7_two_216
    · have c14162 := i_eq (a := x1.toInt) (b := 0) c14162 rfl (by decide)
      refine lv_iload_n hx hb dX7_two_207 rfl (lv_at hl 2 rfl) ?_
      refine lv_if_eq (tgt := 215) hx hb dX7_two_208 (by decide) (fun c14163 => ?_) (fun c14163 => ?_)
      · have c14163 := i_eq (a := x2.toInt) (b := 0) c14163 rfl (by decide)
        refine lv_iconst (v := 0) hx hb dX7_two_215 (by decide) ?_
        exact W.iret (v := 0) hx hb hr (fun t ht hW => ⟨⟨0, (), rfl, trivial, cE.of ht hP hD [] (by decide) rfl⟩, hS.F ht⟩) hS.2.2 dX7_two_216
      · have c14163 := i_ne (a := x2.toInt) (b := 0) c14163 rfl (by decide)
        refine lv_iconst (v := 1) hx hb dX7_two_211 (by decide) ?_
        refine lv_goto (tgt := 216) hx hb dX7_two_212 (by decide) ?_
        exact W.iret (v := 1) hx hb hr (fun t ht hW => ⟨⟨1, (), rfl, trivial, cE.of ht hP hD [] (by decide) rfl⟩, hS.F ht⟩) hS.2.2 dX7_two_216
  have c14161i := i_ne (b := 50) c14161 rfl (by decide)
  by_cases c14164 : x0 = 51
  · have c14164i := i_eq (b := 51) c14164 rfl (by decide)
    refine lv_tableIn (tgt := 203) hx hb dX7_two_1 (by rw [c14164]; decide) (by rw [c14164]; decide) (by first | (rw [c14164]; done) | (rw [c14164]; rfl)) (by decide) ?_
    refine lv_iload_n hx hb dX7_two_203 rfl (lv_at hl 1 rfl) ?_
    refine lv_if_ne (tgt := 211) hx hb dX7_two_204 (by decide) (fun c14165 => ?_) (fun c14165 => ?_)
    · have c14165 := i_ne (a := x1.toInt) (b := 0) c14165 rfl (by decide)
      refine lv_iconst (v := 1) hx hb dX7_two_211 (by decide) ?_
      refine lv_goto (tgt := 216) hx hb dX7_two_212 (by decide) ?_
      exact W.iret (v := 1) hx hb hr (fun t ht hW => ⟨⟨1, (), rfl, trivial, cE.of ht hP hD [] (by decide) rfl⟩, hS.F ht⟩) hS.2.2 dX7_two_216
    · have c14165 := i_eq (a := x1.toInt) (b := 0) c14165 rfl (by decide)
      refine lv_iload_n hx hb dX7_two_207 rfl (lv_at hl 2 rfl) ?_
      refine lv_if_eq (tgt := 215) hx hb dX7_two_208 (by decide) (fun c14166 => ?_) (fun c14166 => ?_)
      · have c14166 := i_eq (a := x2.toInt) (b := 0) c14166 rfl (by decide)
        refine lv_iconst (v := 0) hx hb dX7_two_215 (by decide) ?_
        exact W.iret (v := 0) hx hb hr (fun t ht hW => ⟨⟨0, (), rfl, trivial, cE.of ht hP hD [] (by decide) rfl⟩, hS.F ht⟩) hS.2.2 dX7_two_216
      · have c14166 := i_ne (a := x2.toInt) (b := 0) c14166 rfl (by decide)
        refine lv_iconst (v := 1) hx hb dX7_two_211 (by decide) ?_
        refine lv_goto (tgt := 216) hx hb dX7_two_212 (by decide) ?_
        exact W.iret (v := 1) hx hb hr (fun t ht hW => ⟨⟨1, (), rfl, trivial, cE.of ht hP hD [] (by decide) rfl⟩, hS.F ht⟩) hS.2.2 dX7_two_216
  have c14164i := i_ne (b := 51) c14164 rfl (by decide)
  by_cases c14167 : x0 = 52
  · have c14167i := i_eq (b := 52) c14167 rfl (by decide)
    refine lv_tableIn (tgt := 203) hx hb dX7_two_1 (by rw [c14167]; decide) (by rw [c14167]; decide) (by first | (rw [c14167]; done) | (rw [c14167]; rfl)) (by decide) ?_
    refine lv_iload_n hx hb dX7_two_203 rfl (lv_at hl 1 rfl) ?_
    refine lv_if_ne (tgt := 211) hx hb dX7_two_204 (by decide) (fun c14168 => ?_) (fun c14168 => ?_)
    · have c14168 := i_ne (a := x1.toInt) (b := 0) c14168 rfl (by decide)
      refine lv_iconst (v := 1) hx hb dX7_two_211 (by decide) ?_
      refine lv_goto (tgt := 216) hx hb dX7_two_212 (by decide) ?_
      exact W.iret (v := 1) hx hb hr (fun t ht hW => ⟨⟨1, (), rfl, trivial, cE.of ht hP hD [] (by decide) rfl⟩, hS.F ht⟩) hS.2.2 dX7_two_216
    · have c14168 := i_eq (a := x1.toInt) (b := 0) c14168 rfl (by decide)
      refine lv_iload_n hx hb dX7_two_207 rfl (lv_at hl 2 rfl) ?_
      refine lv_if_eq (tgt := 215) hx hb dX7_two_208 (by decide) (fun c14169 => ?_) (fun c14169 => ?_)
      · have c14169 := i_eq (a := x2.toInt) (b := 0) c14169 rfl (by decide)
        refine lv_iconst (v := 0) hx hb dX7_two_215 (by decide) ?_
        exact W.iret (v := 0) hx hb hr (fun t ht hW => ⟨⟨0, (), rfl, trivial, cE.of ht hP hD [] (by decide) rfl⟩, hS.F ht⟩) hS.2.2 dX7_two_216
      · have c14169 := i_ne (a := x2.toInt) (b := 0) c14169 rfl (by decide)
        refine lv_iconst (v := 1) hx hb dX7_two_211 (by decide) ?_
        refine lv_goto (tgt := 216) hx hb dX7_two_212 (by decide) ?_
        exact W.iret (v := 1) hx hb hr (fun t ht hW => ⟨⟨1, (), rfl, trivial, cE.of ht hP hD [] (by decide) rfl⟩, hS.F ht⟩) hS.2.2 dX7_two_216
  have c14167i := i_ne (b := 52) c14167 rfl (by decide)
  by_cases c14170 : x0 = 53
  · have c14170i := i_eq (b := 53) c14170 rfl (by decide)
    refine lv_tableIn (tgt := 203) hx hb dX7_two_1 (by rw [c14170]; decide) (by rw [c14170]; decide) (by first | (rw [c14170]; done) | (rw [c14170]; rfl)) (by decide) ?_
    refine lv_iload_n hx hb dX7_two_203 rfl (lv_at hl 1 rfl) ?_
    refine lv_if_ne (tgt := 211) hx hb dX7_two_204 (by decide) (fun c14171 => ?_) (fun c14171 => ?_)
    · have c14171 := i_ne (a := x1.toInt) (b := 0) c14171 rfl (by decide)
      refine lv_iconst (v := 1) hx hb dX7_two_211 (by decide) ?_
      refine lv_goto (tgt := 216) hx hb dX7_two_212 (by decide) ?_
      exact W.iret (v := 1) hx hb hr (fun t ht hW => ⟨⟨1, (), rfl, trivial, cE.of ht hP hD [] (by decide) rfl⟩, hS.F ht⟩) hS.2.2 dX7_two_216
    · have c14171 := i_eq (a := x1.toInt) (b := 0) c14171 rfl (by decide)
      refine lv_iload_n hx hb dX7_two_207 rfl (lv_at hl 2 rfl) ?_
      refine lv_if_eq (tgt := 215) hx hb dX7_two_208 (by decide) (fun c14172 => ?_) (fun c14172 => ?_)
      · have c14172 := i_eq (a := x2.toInt) (b := 0) c14172 rfl (by decide)
        refine lv_iconst (v := 0) hx hb dX7_two_215 (by decide) ?_
        exact W.iret (v := 0) hx hb hr (fun t ht hW => ⟨⟨0, (), rfl, trivial, cE.of ht hP hD [] (by decide) rfl⟩, hS.F ht⟩) hS.2.2 dX7_two_216
      · have c14172 := i_ne (a := x2.toInt) (b := 0) c14172 rfl (by decide)
        refine lv_iconst (v := 1) hx hb dX7_two_211 (by decide) ?_
        refine lv_goto (tgt := 216) hx hb dX7_two_212 (by decide) ?_
        exact W.iret (v := 1) hx hb hr (fun t ht hW => ⟨⟨1, (), rfl, trivial, cE.of ht hP hD [] (by decide) rfl⟩, hS.F ht⟩) hS.2.2 dX7_two_216
  have c14170i := i_ne (b := 53) c14170 rfl (by decide)
  by_cases c14173 : x0 = 54
  · have c14173i := i_eq (b := 54) c14173 rfl (by decide)
    refine lv_tableIn (tgt := 203) hx hb dX7_two_1 (by rw [c14173]; decide) (by rw [c14173]; decide) (by first | (rw [c14173]; done) | (rw [c14173]; rfl)) (by decide) ?_
    refine lv_iload_n hx hb dX7_two_203 rfl (lv_at hl 1 rfl) ?_
    refine lv_if_ne (tgt := 211) hx hb dX7_two_204 (by decide) (fun c14174 => ?_) (fun c14174 => ?_)
    · have c14174 := i_ne (a := x1.toInt) (b := 0) c14174 rfl (by decide)
      refine lv_iconst (v := 1) hx hb dX7_two_211 (by decide) ?_
      refine lv_goto (tgt := 216) hx hb dX7_two_212 (by decide) ?_
      exact W.iret (v := 1) hx hb hr (fun t ht hW => ⟨⟨1, (), rfl, trivial, cE.of ht hP hD [] (by decide) rfl⟩, hS.F ht⟩) hS.2.2 dX7_two_216
    · have c14174 := i_eq (a := x1.toInt) (b := 0) c14174 rfl (by decide)
      refine lv_iload_n hx hb dX7_two_207 rfl (lv_at hl 2 rfl) ?_
      refine lv_if_eq (tgt := 215) hx hb dX7_two_208 (by decide) (fun c14175 => ?_) (fun c14175 => ?_)
      · have c14175 := i_eq (a := x2.toInt) (b := 0) c14175 rfl (by decide)
        refine lv_iconst (v := 0) hx hb dX7_two_215 (by decide) ?_
        exact W.iret (v := 0) hx hb hr (fun t ht hW => ⟨⟨0, (), rfl, trivial, cE.of ht hP hD [] (by decide) rfl⟩, hS.F ht⟩) hS.2.2 dX7_two_216
      · have c14175 := i_ne (a := x2.toInt) (b := 0) c14175 rfl (by decide)
        refine lv_iconst (v := 1) hx hb dX7_two_211 (by decide) ?_
        refine lv_goto (tgt := 216) hx hb dX7_two_212 (by decide) ?_
        exact W.iret (v := 1) hx hb hr (fun t ht hW => ⟨⟨1, (), rfl, trivial, cE.of ht hP hD [] (by decide) rfl⟩, hS.F ht⟩) hS.2.2 dX7_two_216
  have c14173i := i_ne (b := 54) c14173 rfl (by decide)
  by_cases c14176 : x0 = 55
  · have c14176i := i_eq (b := 55) c14176 rfl (by decide)
    refine lv_tableIn (tgt := 203) hx hb dX7_two_1 (by rw [c14176]; decide) (by rw [c14176]; decide) (by first | (rw [c14176]; done) | (rw [c14176]; rfl)) (by decide) ?_
    refine lv_iload_n hx hb dX7_two_203 rfl (lv_at hl 1 rfl) ?_
    refine lv_if_ne (tgt := 211) hx hb dX7_two_204 (by decide) (fun c14177 => ?_) (fun c14177 => ?_)
    · have c14177 := i_ne (a := x1.toInt) (b := 0) c14177 rfl (by decide)
      refine lv_iconst (v := 1) hx hb dX7_two_211 (by decide) ?_
      refine lv_goto (tgt := 216) hx hb dX7_two_212 (by decide) ?_
      exact W.iret (v := 1) hx hb hr (fun t ht hW => ⟨⟨1, (), rfl, trivial, cE.of ht hP hD [] (by decide) rfl⟩, hS.F ht⟩) hS.2.2 dX7_two_216
    · have c14177 := i_eq (a := x1.toInt) (b := 0) c14177 rfl (by decide)
      refine lv_iload_n hx hb dX7_two_207 rfl (lv_at hl 2 rfl) ?_
      refine lv_if_eq (tgt := 215) hx hb dX7_two_208 (by decide) (fun c14178 => ?_) (fun c14178 => ?_)
      · have c14178 := i_eq (a := x2.toInt) (b := 0) c14178 rfl (by decide)
        refine lv_iconst (v := 0) hx hb dX7_two_215 (by decide) ?_
        exact W.iret (v := 0) hx hb hr (fun t ht hW => ⟨⟨0, (), rfl, trivial, cE.of ht hP hD [] (by decide) rfl⟩, hS.F ht⟩) hS.2.2 dX7_two_216
      · have c14178 := i_ne (a := x2.toInt) (b := 0) c14178 rfl (by decide)
        refine lv_iconst (v := 1) hx hb dX7_two_211 (by decide) ?_
        refine lv_goto (tgt := 216) hx hb dX7_two_212 (by decide) ?_
        exact W.iret (v := 1) hx hb hr (fun t ht hW => ⟨⟨1, (), rfl, trivial, cE.of ht hP hD [] (by decide) rfl⟩, hS.F ht⟩) hS.2.2 dX7_two_216
  have c14176i := i_ne (b := 55) c14176 rfl (by decide)
  by_cases c14179 : x0 = 56
  · have c14179i := i_eq (b := 56) c14179 rfl (by decide)
    refine lv_tableIn (tgt := 203) hx hb dX7_two_1 (by rw [c14179]; decide) (by rw [c14179]; decide) (by first | (rw [c14179]; done) | (rw [c14179]; rfl)) (by decide) ?_
    refine lv_iload_n hx hb dX7_two_203 rfl (lv_at hl 1 rfl) ?_
    refine lv_if_ne (tgt := 211) hx hb dX7_two_204 (by decide) (fun c14180 => ?_) (fun c14180 => ?_)
    · have c14180 := i_ne (a := x1.toInt) (b := 0) c14180 rfl (by decide)
      refine lv_iconst (v := 1) hx hb dX7_two_211 (by decide) ?_
      refine lv_goto (tgt := 216) hx hb dX7_two_212 (by decide) ?_
      exact W.iret (v := 1) hx hb hr (fun t ht hW => ⟨⟨1, (), rfl, trivial, cE.of ht hP hD [] (by decide) rfl⟩, hS.F ht⟩) hS.2.2 dX7_two_216
    · have c14180 := i_eq (a := x1.toInt) (b := 0) c14180 rfl (by decide)
      refine lv_iload_n hx hb dX7_two_207 rfl (lv_at hl 2 rfl) ?_
      refine lv_if_eq (tgt := 215) hx hb dX7_two_208 (by decide) (fun c14181 => ?_) (fun c14181 => ?_)
      · have c14181 := i_eq (a := x2.toInt) (b := 0) c14181 rfl (by decide)
        refine lv_iconst (v := 0) hx hb dX7_two_215 (by decide) ?_
        exact W.iret (v := 0) hx hb hr (fun t ht hW => ⟨⟨0, (), rfl, trivial, cE.of ht hP hD [] (by decide) rfl⟩, hS.F ht⟩) hS.2.2 dX7_two_216
      · have c14181 := i_ne (a := x2.toInt) (b := 0) c14181 rfl (by decide)
        refine lv_iconst (v := 1) hx hb dX7_two_211 (by decide) ?_
        refine lv_goto (tgt := 216) hx hb dX7_two_212 (by decide) ?_
        exact W.iret (v := 1) hx hb hr (fun t ht hW => ⟨⟨1, (), rfl, trivial, cE.of ht hP hD [] (by decide) rfl⟩, hS.F ht⟩) hS.2.2 dX7_two_216
  have c14179i := i_ne (b := 56) c14179 rfl (by decide)
  by_cases c14182 : x0 = 57
  · have c14182i := i_eq (b := 57) c14182 rfl (by decide)
    refine lv_tableIn (tgt := 203) hx hb dX7_two_1 (by rw [c14182]; decide) (by rw [c14182]; decide) (by first | (rw [c14182]; done) | (rw [c14182]; rfl)) (by decide) ?_
    refine lv_iload_n hx hb dX7_two_203 rfl (lv_at hl 1 rfl) ?_
    refine lv_if_ne (tgt := 211) hx hb dX7_two_204 (by decide) (fun c14183 => ?_) (fun c14183 => ?_)
    · have c14183 := i_ne (a := x1.toInt) (b := 0) c14183 rfl (by decide)
      refine lv_iconst (v := 1) hx hb dX7_two_211 (by decide) ?_
      refine lv_goto (tgt := 216) hx hb dX7_two_212 (by decide) ?_
      exact W.iret (v := 1) hx hb hr (fun t ht hW => ⟨⟨1, (), rfl, trivial, cE.of ht hP hD [] (by decide) rfl⟩, hS.F ht⟩) hS.2.2 dX7_two_216
    · have c14183 := i_eq (a := x1.toInt) (b := 0) c14183 rfl (by decide)
      refine lv_iload_n hx hb dX7_two_207 rfl (lv_at hl 2 rfl) ?_
      refine lv_if_eq (tgt := 215) hx hb dX7_two_208 (by decide) (fun c14184 => ?_) (fun c14184 => ?_)
      · have c14184 := i_eq (a := x2.toInt) (b := 0) c14184 rfl (by decide)
        refine lv_iconst (v := 0) hx hb dX7_two_215 (by decide) ?_
        exact W.iret (v := 0) hx hb hr (fun t ht hW => ⟨⟨0, (), rfl, trivial, cE.of ht hP hD [] (by decide) rfl⟩, hS.F ht⟩) hS.2.2 dX7_two_216
      · have c14184 := i_ne (a := x2.toInt) (b := 0) c14184 rfl (by decide)
        refine lv_iconst (v := 1) hx hb dX7_two_211 (by decide) ?_
        refine lv_goto (tgt := 216) hx hb dX7_two_212 (by decide) ?_
        exact W.iret (v := 1) hx hb hr (fun t ht hW => ⟨⟨1, (), rfl, trivial, cE.of ht hP hD [] (by decide) rfl⟩, hS.F ht⟩) hS.2.2 dX7_two_216
  have c14182i := i_ne (b := 57) c14182 rfl (by decide)
  by_cases c14185 : x0 = 58
  · have c14185i := i_eq (b := 58) c14185 rfl (by decide)
    refine lv_tableIn (tgt := 203) hx hb dX7_two_1 (by rw [c14185]; decide) (by rw [c14185]; decide) (by first | (rw [c14185]; done) | (rw [c14185]; rfl)) (by decide) ?_
    refine lv_iload_n hx hb dX7_two_203 rfl (lv_at hl 1 rfl) ?_
    refine lv_if_ne (tgt := 211) hx hb dX7_two_204 (by decide) (fun c14186 => ?_) (fun c14186 => ?_)
    · have c14186 := i_ne (a := x1.toInt) (b := 0) c14186 rfl (by decide)
      refine lv_iconst (v := 1) hx hb dX7_two_211 (by decide) ?_
      refine lv_goto (tgt := 216) hx hb dX7_two_212 (by decide) ?_
      exact W.iret (v := 1) hx hb hr (fun t ht hW => ⟨⟨1, (), rfl, trivial, cE.of ht hP hD [] (by decide) rfl⟩, hS.F ht⟩) hS.2.2 dX7_two_216
    · have c14186 := i_eq (a := x1.toInt) (b := 0) c14186 rfl (by decide)
      refine lv_iload_n hx hb dX7_two_207 rfl (lv_at hl 2 rfl) ?_
      refine lv_if_eq (tgt := 215) hx hb dX7_two_208 (by decide) (fun c14187 => ?_) (fun c14187 => ?_)
      · have c14187 := i_eq (a := x2.toInt) (b := 0) c14187 rfl (by decide)
        refine lv_iconst (v := 0) hx hb dX7_two_215 (by decide) ?_
        exact W.iret (v := 0) hx hb hr (fun t ht hW => ⟨⟨0, (), rfl, trivial, cE.of ht hP hD [] (by decide) rfl⟩, hS.F ht⟩) hS.2.2 dX7_two_216
      · have c14187 := i_ne (a := x2.toInt) (b := 0) c14187 rfl (by decide)
        refine lv_iconst (v := 1) hx hb dX7_two_211 (by decide) ?_
        refine lv_goto (tgt := 216) hx hb dX7_two_212 (by decide) ?_
        exact W.iret (v := 1) hx hb hr (fun t ht hW => ⟨⟨1, (), rfl, trivial, cE.of ht hP hD [] (by decide) rfl⟩, hS.F ht⟩) hS.2.2 dX7_two_216
  have c14185i := i_ne (b := 58) c14185 rfl (by decide)
  by_cases c14188 : x0 = 59
  · have c14188i := i_eq (b := 59) c14188 rfl (by decide)
    refine lv_tableIn (tgt := 203) hx hb dX7_two_1 (by rw [c14188]; decide) (by rw [c14188]; decide) (by first | (rw [c14188]; done) | (rw [c14188]; rfl)) (by decide) ?_
    refine lv_iload_n hx hb dX7_two_203 rfl (lv_at hl 1 rfl) ?_
    refine lv_if_ne (tgt := 211) hx hb dX7_two_204 (by decide) (fun c14189 => ?_) (fun c14189 => ?_)
    · have c14189 := i_ne (a := x1.toInt) (b := 0) c14189 rfl (by decide)
      refine lv_iconst (v := 1) hx hb dX7_two_211 (by decide) ?_
      refine lv_goto (tgt := 216) hx hb dX7_two_212 (by decide) ?_
      exact W.iret (v := 1) hx hb hr (fun t ht hW => ⟨⟨1, (), rfl, trivial, cE.of ht hP hD [] (by decide) rfl⟩, hS.F ht⟩) hS.2.2 dX7_two_216
    · have c14189 := i_eq (a := x1.toInt) (b := 0) c14189 rfl (by decide)
      refine lv_iload_n hx hb dX7_two_207 rfl (lv_at hl 2 rfl) ?_
      refine lv_if_eq (tgt := 215) hx hb dX7_two_208 (by decide) (fun c14190 => ?_) (fun c14190 => ?_)
      · have c14190 := i_eq (a := x2.toInt) (b := 0) c14190 rfl (by decide)
        refine lv_iconst (v := 0) hx hb dX7_two_215 (by decide) ?_
        exact W.iret (v := 0) hx hb hr (fun t ht hW => ⟨⟨0, (), rfl, trivial, cE.of ht hP hD [] (by decide) rfl⟩, hS.F ht⟩) hS.2.2 dX7_two_216
      · have c14190 := i_ne (a := x2.toInt) (b := 0) c14190 rfl (by decide)
        refine lv_iconst (v := 1) hx hb dX7_two_211 (by decide) ?_
        refine lv_goto (tgt := 216) hx hb dX7_two_212 (by decide) ?_
        exact W.iret (v := 1) hx hb hr (fun t ht hW => ⟨⟨1, (), rfl, trivial, cE.of ht hP hD [] (by decide) rfl⟩, hS.F ht⟩) hS.2.2 dX7_two_216
  have c14188i := i_ne (b := 59) c14188 rfl (by decide)
  by_cases c14191 : x0 = 60
  · have c14191i := i_eq (b := 60) c14191 rfl (by decide)
    refine lv_tableIn (tgt := 156) hx hb dX7_two_1 (by rw [c14191]; decide) (by rw [c14191]; decide) (by first | (rw [c14191]; done) | (rw [c14191]; rfl)) (by decide) ?_
    refine lv_iload_n hx hb dX7_two_156 rfl (lv_at hl 1 rfl) ?_
    refine lv_iload_n hx hb dX7_two_157 rfl (lv_at hl 2 rfl) ?_
    refine lv_icmp_ge (tgt := 165) hx hb dX7_two_158 (by decide) (fun c14192 => ?_) (fun c14192 => ?_)
    · have c14192 := i_le (a := x2.toInt) (b := x1.toInt) c14192 rfl rfl
      refine lv_iconst (v := 0) hx hb dX7_two_165 (by decide) ?_
      exact W.iret (v := 0) hx hb hr (fun t ht hW => ⟨⟨0, (), rfl, trivial, cE.of ht hP hD [] (by decide) rfl⟩, hS.F ht⟩) hS.2.2 dX7_two_166
    · have c14192 := i_nle (a := x2.toInt) (b := x1.toInt) c14192 rfl rfl
      refine lv_iconst (v := 1) hx hb dX7_two_161 (by decide) ?_
      refine lv_goto (tgt := 166) hx hb dX7_two_162 (by decide) ?_
      exact W.iret (v := 1) hx hb hr (fun t ht hW => ⟨⟨1, (), rfl, trivial, cE.of ht hP hD [] (by decide) rfl⟩, hS.F ht⟩) hS.2.2 dX7_two_166
  have c14191i := i_ne (b := 60) c14191 rfl (by decide)
  by_cases c14193 : x0 = 61
  · have c14193i := i_eq (b := 61) c14193 rfl (by decide)
    refine lv_tableIn (tgt := 178) hx hb dX7_two_1 (by rw [c14193]; decide) (by rw [c14193]; decide) (by first | (rw [c14193]; done) | (rw [c14193]; rfl)) (by decide) ?_
    refine lv_iload_n hx hb dX7_two_178 rfl (lv_at hl 1 rfl) ?_
    refine lv_iload_n hx hb dX7_two_179 rfl (lv_at hl 2 rfl) ?_
    refine lv_icmp_ne (tgt := 187) hx hb dX7_two_180 (by decide) (fun c14194 => ?_) (fun c14194 => ?_)
    · have c14194 := i_ne (a := x1.toInt) (b := x2.toInt) c14194 rfl rfl
      refine lv_iconst (v := 0) hx hb dX7_two_187 (by decide) ?_
      exact W.iret (v := 0) hx hb hr (fun t ht hW => ⟨⟨0, (), rfl, trivial, cE.of ht hP hD [] (by decide) rfl⟩, hS.F ht⟩) hS.2.2 dX7_two_188
    · have c14194 := i_eq (a := x1.toInt) (b := x2.toInt) c14194 rfl rfl
      refine lv_iconst (v := 1) hx hb dX7_two_183 (by decide) ?_
      refine lv_goto (tgt := 188) hx hb dX7_two_184 (by decide) ?_
      exact W.iret (v := 1) hx hb hr (fun t ht hW => ⟨⟨1, (), rfl, trivial, cE.of ht hP hD [] (by decide) rfl⟩, hS.F ht⟩) hS.2.2 dX7_two_188
  have c14193i := i_ne (b := 61) c14193 rfl (by decide)
  by_cases c14195 : x0 = 62
  · have c14195i := i_eq (b := 62) c14195 rfl (by decide)
    refine lv_tableIn (tgt := 167) hx hb dX7_two_1 (by rw [c14195]; decide) (by rw [c14195]; decide) (by first | (rw [c14195]; done) | (rw [c14195]; rfl)) (by decide) ?_
    refine lv_iload_n hx hb dX7_two_167 rfl (lv_at hl 1 rfl) ?_
    refine lv_iload_n hx hb dX7_two_168 rfl (lv_at hl 2 rfl) ?_
    refine lv_icmp_le (tgt := 176) hx hb dX7_two_169 (by decide) (fun c14196 => ?_) (fun c14196 => ?_)
    · have c14196 := i_le (a := x1.toInt) (b := x2.toInt) c14196 rfl rfl
      refine lv_iconst (v := 0) hx hb dX7_two_176 (by decide) ?_
      exact W.iret (v := 0) hx hb hr (fun t ht hW => ⟨⟨0, (), rfl, trivial, cE.of ht hP hD [] (by decide) rfl⟩, hS.F ht⟩) hS.2.2 dX7_two_177
    · have c14196 := i_nle (a := x1.toInt) (b := x2.toInt) c14196 rfl rfl
      refine lv_iconst (v := 1) hx hb dX7_two_172 (by decide) ?_
      refine lv_goto (tgt := 177) hx hb dX7_two_173 (by decide) ?_
      exact W.iret (v := 1) hx hb hr (fun t ht hW => ⟨⟨1, (), rfl, trivial, cE.of ht hP hD [] (by decide) rfl⟩, hS.F ht⟩) hS.2.2 dX7_two_177
  have c14195i := i_ne (b := 62) c14195 rfl (by decide)
  refine lv_tableOut (tgt := 203) hx hb dX7_two_1 (by omega) (by decide) ?_
  refine lv_iload_n hx hb dX7_two_203 rfl (lv_at hl 1 rfl) ?_
  refine lv_if_ne (tgt := 211) hx hb dX7_two_204 (by decide) (fun c14197 => ?_) (fun c14197 => ?_)
  · have c14197 := i_ne (a := x1.toInt) (b := 0) c14197 rfl (by decide)
    refine lv_iconst (v := 1) hx hb dX7_two_211 (by decide) ?_
    refine lv_goto (tgt := 216) hx hb dX7_two_212 (by decide) ?_
    exact W.iret (v := 1) hx hb hr (fun t ht hW => ⟨⟨1, (), rfl, trivial, cE.of ht hP hD [] (by decide) rfl⟩, hS.F ht⟩) hS.2.2 dX7_two_216
  · have c14197 := i_eq (a := x1.toInt) (b := 0) c14197 rfl (by decide)
    refine lv_iload_n hx hb dX7_two_207 rfl (lv_at hl 2 rfl) ?_
    refine lv_if_eq (tgt := 215) hx hb dX7_two_208 (by decide) (fun c14198 => ?_) (fun c14198 => ?_)
    · have c14198 := i_eq (a := x2.toInt) (b := 0) c14198 rfl (by decide)
      refine lv_iconst (v := 0) hx hb dX7_two_215 (by decide) ?_
      exact W.iret (v := 0) hx hb hr (fun t ht hW => ⟨⟨0, (), rfl, trivial, cE.of ht hP hD [] (by decide) rfl⟩, hS.F ht⟩) hS.2.2 dX7_two_216
    · have c14198 := i_ne (a := x2.toInt) (b := 0) c14198 rfl (by decide)
      refine lv_iconst (v := 1) hx hb dX7_two_211 (by decide) ?_
      refine lv_goto (tgt := 216) hx hb dX7_two_212 (by decide) ?_
      exact W.iret (v := 1) hx hb hr (fun t ht hW => ⟨⟨1, (), rfl, trivial, cE.of ht hP hD [] (by decide) rfl⟩, hS.F ht⟩) hS.2.2 dX7_two_216
def wo_k_M_asked : List Cond := [.fieldLink RX7 301 "ReplicaChainModel" "askBack" "I", .fieldLink RX7 289 "ReplicaChainModel" "askFrom" "I", .fieldLink RX7 76 "ReplicaChainModel" "all" "[I", .fieldLink RX7 292 "ReplicaChainModel" "askTo" "I", .fieldLink RX7 298 "ReplicaChainModel" "askUnder" "I", .fieldLink RX7 295 "ReplicaChainModel" "askWrite" "I"]
def wq_k_M_asked : List Cond := .code yX7_asked cX7_asked 3 (some .int) :: (wo_k_M_asked ++ (wsX70 ++ []))
theorem gd_k_M_asked : Gd wq_k_M_asked := gd_c (gd_a (gd_o (by decide +kernel)) (gd_a gd_u gd_0))
abbrev wc_k_M_asked (cyB cyI cyJ cyZ cyO : ClassId) (hM : Nat) (md : Nat → Nat) (m_all : Nat → Int32) (m_taped : Int32) (m_size : Int32) (m_faultKind : Int32) (m_faultPlace : Int32) (m_at : Int32) (m_end : Int32) (m_token : Int32) (m_number : Int32) (m_bank : Int32) (m_rb : Int32) (m_codes : Int32) (m_within : Int32) (m_piled : Int32) (m_unitsInRule : Int32) (m_askFrom : Int32) (m_askTo : Int32) (m_askWrite : Int32) (m_askUnder : Int32) (m_askBack : Int32) (m_thoughtSlow : Int32) (m_came : Int32) (m_acts : Int32) (m_undone : Int32) (m_laid : Int32) (m_seens : Int32) (m_time : Int32) (m_name : Int64) (x1 : Int32) (x2 : Int32) : va_W := [(hM, .inr (7, [.ref (md 0), .ref (md 1), .int m_taped, .int m_size, .int m_faultKind, .int m_faultPlace, .int m_at, .int m_end, .int m_token, .int m_number, .long m_name, .ref (md 11), .ref (md 12), .ref (md 13), .ref (md 14), .ref (md 15), .ref (md 16), .ref (md 17), .ref (md 18), .ref (md 19), .ref (md 20), .ref (md 21), .ref (md 22), .ref (md 23), .ref (md 24), .ref (md 25), .ref (md 26), .ref (md 27), .ref (md 28), .int m_bank, .int m_rb, .int m_codes, .int m_within, .int m_piled, .int m_unitsInRule, .int m_askFrom, .int m_askTo, .int m_askWrite, .int m_askUnder, .int m_askBack, .ref (md 40), .ref (md 41), .int m_thoughtSlow, .int m_came, .ref (md 44), .int m_acts, .int m_undone, .ref (md 47), .ref (md 48), .int m_laid, .ref (md 50), .ref (md 51), .ref (md 52), .ref (md 53), .ref (md 54), .int m_seens, .int m_time, .ref (md 57), .ref (md 58)])), (md 40, .inl (cyI, 520, .inl m_all))]
set_option maxHeartbeats 4000000 in
set_option maxRecDepth 100000 in
theorem k_M_asked (l : Launch) (dC : Nat → ClassId) (dI : Nat → Nat → Nat) (cyB cyI cyJ cyZ cyO : ClassId) (hM : Nat) (md : Nat → Nat) (m_all : Nat → Int32) (m_taped : Int32) (m_size : Int32) (m_faultKind : Int32) (m_faultPlace : Int32) (m_at : Int32) (m_end : Int32) (m_token : Int32) (m_number : Int32) (m_bank : Int32) (m_rb : Int32) (m_codes : Int32) (m_within : Int32) (m_piled : Int32) (m_unitsInRule : Int32) (m_askFrom : Int32) (m_askTo : Int32) (m_askWrite : Int32) (m_askUnder : Int32) (m_askBack : Int32) (m_thoughtSlow : Int32) (m_came : Int32) (m_acts : Int32) (m_undone : Int32) (m_laid : Int32) (m_seens : Int32) (m_time : Int32) (m_name : Int64) (x1 : Int32) (x2 : Int32) (sz : Nat) (l_m_taped : 0 ≤ m_taped.toInt) (u_m_taped : m_taped.toInt ≤ 1600) (l_m_size : 0 ≤ m_size.toInt) (u_m_size : m_size.toInt ≤ 1600) (l_m_bank : 0 ≤ m_bank.toInt) (u_m_bank : m_bank.toInt ≤ 1) (l_m_rb : 0 ≤ m_rb.toInt) (u_m_rb : m_rb.toInt ≤ 1) (l_m_acts : 0 ≤ m_acts.toInt) (u_m_acts : m_acts.toInt ≤ 40) (l_m_undone : 0 ≤ m_undone.toInt) (u_m_undone : m_undone.toInt ≤ 40) (l_m_laid : 0 ≤ m_laid.toInt) (u_m_laid : m_laid.toInt ≤ 6) (l_m_seens : 0 ≤ m_seens.toInt) (u_m_seens : m_seens.toInt ≤ 30) (l_m_time : 0 ≤ m_time.toInt) (u_m_time : m_time.toInt ≤ 100000) (i0_m_all : In2 m_all 0 1 (0) (6)) (i1_m_all : In2 m_all 1 7 (0) (7)) (i2_m_all : In2 m_all 7 15 (0) (40)) (i3_m_all : In2 m_all 15 23 (0) (40)) (i4_m_all : In2 m_all 105 106 (-1) (7)) (i5_m_all : In2 m_all 109 110 (0) (999)) : Met l yX7_asked wq_k_M_asked ({ frames := 0, cells := 0, slots := 0, locals := 0 }) (va_Pc [.ref hM, .int x1, .int x2] (cB (dC, dI) (kT cyB cyI cyJ cyZ cyO) (wc_k_M_asked cyB cyI cyJ cyZ cyO hM md m_all m_taped m_size m_faultKind m_faultPlace m_at m_end m_token m_number m_bank m_rb m_codes m_within m_piled m_unitsInRule m_askFrom m_askTo m_askWrite m_askUnder m_askBack m_thoughtSlow m_came m_acts m_undone m_laid m_seens m_time m_name x1 x2) sz)) (va_Qi (fun (r : Int32) (u : Unit) => True) (fun (u : Unit) t => cE (dC, dI) (va_A (wc_k_M_asked cyB cyI cyJ cyZ cyO hM md m_all m_taped m_size m_faultKind m_faultPlace m_at m_end m_token m_number m_bank m_rb m_codes m_within m_piled m_unitsInRule m_askFrom m_askTo m_askWrite m_askUnder m_askBack m_thoughtSlow m_came m_acts m_undone m_laid m_seens m_time m_name x1 x2) sz) ([(hM, .inr (7, [.ref (md 0), .ref (md 1), .int m_taped, .int m_size, .int m_faultKind, .int m_faultPlace, .int m_at, .int m_end, .int m_token, .int m_number, .long m_name, .ref (md 11), .ref (md 12), .ref (md 13), .ref (md 14), .ref (md 15), .ref (md 16), .ref (md 17), .ref (md 18), .ref (md 19), .ref (md 20), .ref (md 21), .ref (md 22), .ref (md 23), .ref (md 24), .ref (md 25), .ref (md 26), .ref (md 27), .ref (md 28), .int m_bank, .int m_rb, .int m_codes, .int m_within, .int m_piled, .int m_unitsInRule, .int m_askFrom, .int m_askTo, .int m_askWrite, .int m_askUnder, .int m_askBack, .ref (md 40), .ref (md 41), .int m_thoughtSlow, .int m_came, .ref (md 44), .int m_acts, .int m_undone, .ref (md 47), .ref (md 48), .int m_laid, .ref (md 50), .ref (md 51), .ref (md 52), .ref (md 53), .ref (md 54), .int m_seens, .int m_time, .ref (md 57), .ref (md 58)])), (md 40, .inl (cyI, 520, .inl m_all))]) t.heap) (va_A (wc_k_M_asked cyB cyI cyJ cyZ cyO hM md m_all m_taped m_size m_faultKind m_faultPlace m_at m_end m_token m_number m_bank m_rb m_codes m_within m_piled m_unitsInRule m_askFrom m_askTo m_askWrite m_askUnder m_askBack m_thoughtSlow m_came m_acts m_undone m_laid m_seens m_time m_name x1 x2) sz)) 0 0 (va_A (wc_k_M_asked cyB cyI cyJ cyZ cyO hM md m_all m_taped m_size m_faultKind m_faultPlace m_at m_end m_token m_number m_bank m_rb m_codes m_within m_piled m_unitsInRule m_askFrom m_askTo m_askWrite m_askUnder m_askBack m_thoughtSlow m_came m_acts m_undone m_laid m_seens m_time m_name x1 x2) sz) := by
  refine Met.ofW (cc := cX7_asked) (maxL := 3) (ret := (some .int)) (by decide) rfl ?_
  intro p e s m args below meth c s₁ B hml hv
  obtain ⟨rfl, hsz, hP, hKN, hD0⟩ := hv
  have hx := B.exec
  have hb := B.bytes
  have hr := B.returns
  have hts := atoms_spec (ws := wq_k_M_asked) B.pre
  have hown : s.vm.findClass RX7 = some m.cls := findClass_of_methodNamed B.named
  have hlocks := B.notSynchronized
  have hK := hKN.1
  have hfix : CallFix p m c cX7_asked 3 s [.ref hM, .int x1, .int x2].toArray wq_k_M_asked RX7 := ⟨hx, hb, hml, hown, hts⟩
  have hi7 : ∀ w ∈ wsX70, w ∈ wq_k_M_asked := (sb_c sb_l)
  subst hsz
  have hD := hD0.self (sz := s.heap.size)
  generalize hAe : va_A (wc_k_M_asked cyB cyI cyJ cyZ cyO hM md m_all m_taped m_size m_faultKind m_faultPlace m_at m_end m_token m_number m_bank m_rb m_codes m_within m_piled m_unitsInRule m_askFrom m_askTo m_askWrite m_askUnder m_askBack m_thoughtSlow m_came m_acts m_undone m_laid m_seens m_time m_name x1 x2) s.heap.size = A at hD ⊢
  have hA : ∀ q : Nat, s.heap.size ≤ q → A q := fun q h => by rw [← hAe]; exact Or.inr h
  have hS : va_S A s.heap s.heap [] := va_S.rf
  have hl := lv_entry ([.ref hM, .int x1, .int x2]) (n := 3) (Nat.le_of_ble_eq_true rfl)
  rw [lg_entry_eq]
  generalize (lg_sl ([.ref hM, .int x1, .int x2]) ++ List.replicate (3 - (lg_sl ([.ref hM, .int x1, .int x2])).length) Slot.unset).toArray = ls at hl ⊢
  have hl : lv_has ls 3 [(0, .ref hM), (1, .int x1), (2, .int x2)] := hl
  refine lv_iload_n hx hb dX7_asked_0 rfl (lv_at hl 1 rfl) ?_
  by_cases c14213 : x1 = 98
  · have c14213i := i_eq (b := 98) c14213 rfl (by decide)
    refine lv_lookup (off := 79) (tgt := 80) hx hb dX7_asked_1 rfl (by first | (rw [c14213]; done) | (rw [c14213]; rfl)) (by decide) ?_
    refine lv_aload_n hx hb dX7_asked_80 rfl (lv_at hl 0 rfl) ?_
    refine va_get (D := (dC, dI)) (ci := 7) (v := .int m_askBack) (C := RX7) (T := TX7) (N := 59) hx hb hts hi7 hown hK hP 0 rfl rfl 39 (by decide) (hts _ (ow_m (k := 0) rfl)) (fun _ h9 => h9) rfl dX7_asked_81 ?_
    exact W.iret (v := m_askBack) hx hb hr (fun t ht hW => ⟨⟨m_askBack, (), rfl, trivial, cE.of ht hP hD [0, 1] (by decide) rfl⟩, hS.F ht⟩) hS.2.2 dX7_asked_84
  have c14213i := i_ne (b := 98) c14213 rfl (by decide)
  by_cases c14214 : x1 = 102
  · have c14214i := i_eq (b := 102) c14214 rfl (by decide)
    refine lv_lookup (off := 59) (tgt := 60) hx hb dX7_asked_1 rfl (by first | (rw [c14214]; done) | (rw [c14214]; rfl)) (by decide) ?_
    refine lv_aload_n hx hb dX7_asked_60 rfl (lv_at hl 0 rfl) ?_
    refine va_get (D := (dC, dI)) (ci := 7) (v := .int m_askFrom) (C := RX7) (T := TX7) (N := 59) hx hb hts hi7 hown hK hP 0 rfl rfl 35 (by decide) (hts _ (ow_m (k := 1) rfl)) (fun _ h9 => h9) rfl dX7_asked_61 ?_
    exact W.iret (v := m_askFrom) hx hb hr (fun t ht hW => ⟨⟨m_askFrom, (), rfl, trivial, cE.of ht hP hD [0, 1] (by decide) rfl⟩, hS.F ht⟩) hS.2.2 dX7_asked_64
  have c14214i := i_ne (b := 102) c14214 rfl (by decide)
  by_cases c14215 : x1 = 107
  · have c14215i := i_eq (b := 107) c14215 rfl (by decide)
    refine lv_lookup (off := 84) (tgt := 85) hx hb dX7_asked_1 rfl (by first | (rw [c14215]; done) | (rw [c14215]; rfl)) (by decide) ?_
    refine lv_aload_n hx hb dX7_asked_85 rfl (lv_at hl 0 rfl) ?_
    refine va_get (D := (dC, dI)) (ci := 7) (v := .ref (md 40)) (C := RX7) (T := TX7) (N := 59) hx hb hts hi7 hown hK hP 0 rfl rfl 40 (by decide) (hts _ (ow_m (k := 2) rfl)) (fun _ h9 => h9) rfl dX7_asked_86 ?_
    refine lv_bipush (v := 108) hx hb dX7_asked_89 (by decide) ?_
    refine va_iald hx hb hK hP 1 1 rfl rfl (vp_i (a := 108) (by decide) (by decide) (by decide)) dX7_asked_91 ?_
    refine lv_topi (fun z14216 ez14216 => ?_)
    exact W.iret (v := z14216) hx hb hr (fun t ht hW => ⟨⟨z14216, (), rfl, trivial, cE.of ht hP hD [0, 1] (by decide) rfl⟩, hS.F ht⟩) hS.2.2 dX7_asked_92
  have c14215i := i_ne (b := 107) c14215 rfl (by decide)
  by_cases c14217 : x1 = 116
  · have c14217i := i_eq (b := 116) c14217 rfl (by decide)
    refine lv_lookup (off := 64) (tgt := 65) hx hb dX7_asked_1 rfl (by first | (rw [c14217]; done) | (rw [c14217]; rfl)) (by decide) ?_
    refine lv_aload_n hx hb dX7_asked_65 rfl (lv_at hl 0 rfl) ?_
    refine va_get (D := (dC, dI)) (ci := 7) (v := .int m_askTo) (C := RX7) (T := TX7) (N := 59) hx hb hts hi7 hown hK hP 0 rfl rfl 36 (by decide) (hts _ (ow_m (k := 3) rfl)) (fun _ h9 => h9) rfl dX7_asked_66 ?_
    exact W.iret (v := m_askTo) hx hb hr (fun t ht hW => ⟨⟨m_askTo, (), rfl, trivial, cE.of ht hP hD [0, 1] (by decide) rfl⟩, hS.F ht⟩) hS.2.2 dX7_asked_69
  have c14217i := i_ne (b := 116) c14217 rfl (by decide)
  by_cases c14218 : x1 = 117
  · have c14218i := i_eq (b := 117) c14218 rfl (by decide)
    refine lv_lookup (off := 74) (tgt := 75) hx hb dX7_asked_1 rfl (by first | (rw [c14218]; done) | (rw [c14218]; rfl)) (by decide) ?_
    refine lv_aload_n hx hb dX7_asked_75 rfl (lv_at hl 0 rfl) ?_
    refine va_get (D := (dC, dI)) (ci := 7) (v := .int m_askUnder) (C := RX7) (T := TX7) (N := 59) hx hb hts hi7 hown hK hP 0 rfl rfl 38 (by decide) (hts _ (ow_m (k := 4) rfl)) (fun _ h9 => h9) rfl dX7_asked_76 ?_
    exact W.iret (v := m_askUnder) hx hb hr (fun t ht hW => ⟨⟨m_askUnder, (), rfl, trivial, cE.of ht hP hD [0, 1] (by decide) rfl⟩, hS.F ht⟩) hS.2.2 dX7_asked_79
  have c14218i := i_ne (b := 117) c14218 rfl (by decide)
  by_cases c14219 : x1 = 119
  · have c14219i := i_eq (b := 119) c14219 rfl (by decide)
    refine lv_lookup (off := 69) (tgt := 70) hx hb dX7_asked_1 rfl (by first | (rw [c14219]; done) | (rw [c14219]; rfl)) (by decide) ?_
    refine lv_aload_n hx hb dX7_asked_70 rfl (lv_at hl 0 rfl) ?_
    refine va_get (D := (dC, dI)) (ci := 7) (v := .int m_askWrite) (C := RX7) (T := TX7) (N := 59) hx hb hts hi7 hown hK hP 0 rfl rfl 37 (by decide) (hts _ (ow_m (k := 5) rfl)) (fun _ h9 => h9) rfl dX7_asked_71 ?_
    exact W.iret (v := m_askWrite) hx hb hr (fun t ht hW => ⟨⟨m_askWrite, (), rfl, trivial, cE.of ht hP hD [0, 1] (by decide) rfl⟩, hS.F ht⟩) hS.2.2 dX7_asked_74
  have c14219i := i_ne (b := 119) c14219 rfl (by decide)
  refine lv_lookup (off := 92) (tgt := 93) hx hb dX7_asked_1 rfl ((lv_osw c14213 (by decide)).trans ((lv_osw c14214 (by decide)).trans ((lv_osw c14215 (by decide)).trans ((lv_osw c14217 (by decide)).trans ((lv_osw c14218 (by decide)).trans ((lv_osw c14219 (by decide)).trans rfl)))))) (by decide) ?_
  refine lv_iload_n hx hb dX7_asked_93 rfl (lv_at hl 2 rfl) ?_
  exact W.iret (v := x2) hx hb hr (fun t ht hW => ⟨⟨x2, (), rfl, trivial, cE.of ht hP hD [0, 1] (by decide) rfl⟩, hS.F ht⟩) hS.2.2 dX7_asked_94
def wo_k_M_comes : List Cond := [.fieldLink RX7 48 "ReplicaChainModel" "ruleFrom" "[I", .fieldLink RX7 214 "ReplicaChainModel" "bank" "I", .fieldLink RX7 51 "ReplicaChainModel" "ruleTo" "[I", .fieldLink RX7 73 "ReplicaChainModel" "pile" "[I", .fieldLink RX7 61 "ReplicaChainModel" "code" "[I", .methodLink RX7 170 yX7_isLetter, .static yX7_isLetter, .initialized RX7, .fieldLink RX7 64 "ReplicaChainModel" "codeNumber" "[I", .methodLink RX7 304 yX7_asked, .instanceMethod yX7_asked, .selects RX7 yX7_asked yX7_asked, .methodLink RX7 307 yX7_two, .static yX7_two]
def wq_k_M_comes : List Cond := .code yX7_comes cX7_comes 4 (some .int) :: (wo_k_M_comes ++ (wq_k_M_isLetter ++ (wq_k_M_asked ++ (wq_k_M_two ++ (wsX70 ++ [])))))
theorem gd_k_M_comes : Gd wq_k_M_comes := gd_c (gd_a (gd_o (by decide +kernel)) (gd_a gd_k_M_isLetter (gd_a gd_k_M_asked (gd_a gd_k_M_two (gd_a gd_u gd_0)))))
abbrev wc_k_M_comes (cyB cyI cyJ cyZ cyO : ClassId) (hM : Nat) (md : Nat → Nat) (m_ruleFrom : Nat → Int32) (m_ruleTo : Nat → Int32) (m_code : Nat → Int32) (m_codeNumber : Nat → Int32) (m_pile : Nat → Int32) (m_all : Nat → Int32) (m_taped : Int32) (m_size : Int32) (m_faultKind : Int32) (m_faultPlace : Int32) (m_at : Int32) (m_end : Int32) (m_token : Int32) (m_number : Int32) (m_bank : Int32) (m_rb : Int32) (m_codes : Int32) (m_within : Int32) (m_piled : Int32) (m_unitsInRule : Int32) (m_askFrom : Int32) (m_askTo : Int32) (m_askWrite : Int32) (m_askUnder : Int32) (m_askBack : Int32) (m_thoughtSlow : Int32) (m_came : Int32) (m_acts : Int32) (m_undone : Int32) (m_laid : Int32) (m_seens : Int32) (m_time : Int32) (m_name : Int64) : va_W := [(hM, .inr (7, [.ref (md 0), .ref (md 1), .int m_taped, .int m_size, .int m_faultKind, .int m_faultPlace, .int m_at, .int m_end, .int m_token, .int m_number, .long m_name, .ref (md 11), .ref (md 12), .ref (md 13), .ref (md 14), .ref (md 15), .ref (md 16), .ref (md 17), .ref (md 18), .ref (md 19), .ref (md 20), .ref (md 21), .ref (md 22), .ref (md 23), .ref (md 24), .ref (md 25), .ref (md 26), .ref (md 27), .ref (md 28), .int m_bank, .int m_rb, .int m_codes, .int m_within, .int m_piled, .int m_unitsInRule, .int m_askFrom, .int m_askTo, .int m_askWrite, .int m_askUnder, .int m_askBack, .ref (md 40), .ref (md 41), .int m_thoughtSlow, .int m_came, .ref (md 44), .int m_acts, .int m_undone, .ref (md 47), .ref (md 48), .int m_laid, .ref (md 50), .ref (md 51), .ref (md 52), .ref (md 53), .ref (md 54), .int m_seens, .int m_time, .ref (md 57), .ref (md 58)])), (md 20, .inl (cyI, 2, .inl m_ruleFrom)), (md 21, .inl (cyI, 2, .inl m_ruleTo)), (md 24, .inl (cyI, 1120, .inl m_code)), (md 25, .inl (cyI, 1120, .inl m_codeNumber)), (md 28, .inl (cyI, 60, .inl m_pile)), (md 40, .inl (cyI, 520, .inl m_all))]
set_option maxHeartbeats 4000000 in
set_option maxRecDepth 100000 in
theorem k_M_comes (l : Launch) (dC : Nat → ClassId) (dI : Nat → Nat → Nat) (cyB cyI cyJ cyZ cyO : ClassId) (hM : Nat) (md : Nat → Nat) (m_ruleFrom : Nat → Int32) (m_ruleTo : Nat → Int32) (m_code : Nat → Int32) (m_codeNumber : Nat → Int32) (m_pile : Nat → Int32) (m_all : Nat → Int32) (m_taped : Int32) (m_size : Int32) (m_faultKind : Int32) (m_faultPlace : Int32) (m_at : Int32) (m_end : Int32) (m_token : Int32) (m_number : Int32) (m_bank : Int32) (m_rb : Int32) (m_codes : Int32) (m_within : Int32) (m_piled : Int32) (m_unitsInRule : Int32) (m_askFrom : Int32) (m_askTo : Int32) (m_askWrite : Int32) (m_askUnder : Int32) (m_askBack : Int32) (m_thoughtSlow : Int32) (m_came : Int32) (m_acts : Int32) (m_undone : Int32) (m_laid : Int32) (m_seens : Int32) (m_time : Int32) (m_name : Int64) (sz : Nat) (l_m_taped : 0 ≤ m_taped.toInt) (u_m_taped : m_taped.toInt ≤ 1600) (l_m_size : 0 ≤ m_size.toInt) (u_m_size : m_size.toInt ≤ 1600) (l_m_bank : 0 ≤ m_bank.toInt) (u_m_bank : m_bank.toInt ≤ 1) (l_m_rb : 0 ≤ m_rb.toInt) (u_m_rb : m_rb.toInt ≤ 1) (l_m_acts : 0 ≤ m_acts.toInt) (u_m_acts : m_acts.toInt ≤ 40) (l_m_undone : 0 ≤ m_undone.toInt) (u_m_undone : m_undone.toInt ≤ 40) (l_m_laid : 0 ≤ m_laid.toInt) (u_m_laid : m_laid.toInt ≤ 6) (l_m_seens : 0 ≤ m_seens.toInt) (u_m_seens : m_seens.toInt ≤ 30) (l_m_time : 0 ≤ m_time.toInt) (u_m_time : m_time.toInt ≤ 100000) (i0_m_all : In2 m_all 0 1 (0) (6)) (i1_m_all : In2 m_all 1 7 (0) (7)) (i2_m_all : In2 m_all 7 15 (0) (40)) (i3_m_all : In2 m_all 15 23 (0) (40)) (i4_m_all : In2 m_all 105 106 (-1) (7)) (i5_m_all : In2 m_all 109 110 (0) (999)) (hCI : CI m_code m_ruleFrom m_ruleTo) : Met l yX7_comes wq_k_M_comes ({ frames := 1, cells := 0, slots := 0, locals := 22 }) (va_Pc [.ref hM] (cB (dC, dI) (kT cyB cyI cyJ cyZ cyO) (wc_k_M_comes cyB cyI cyJ cyZ cyO hM md m_ruleFrom m_ruleTo m_code m_codeNumber m_pile m_all m_taped m_size m_faultKind m_faultPlace m_at m_end m_token m_number m_bank m_rb m_codes m_within m_piled m_unitsInRule m_askFrom m_askTo m_askWrite m_askUnder m_askBack m_thoughtSlow m_came m_acts m_undone m_laid m_seens m_time m_name) sz)) (va_Qi (fun (r : Int32) (u : ST4) => True) (fun (u : ST4) t => cE (dC, dI) (va_A (wc_k_M_comes cyB cyI cyJ cyZ cyO hM md m_ruleFrom m_ruleTo m_code m_codeNumber m_pile m_all m_taped m_size m_faultKind m_faultPlace m_at m_end m_token m_number m_bank m_rb m_codes m_within m_piled m_unitsInRule m_askFrom m_askTo m_askWrite m_askUnder m_askBack m_thoughtSlow m_came m_acts m_undone m_laid m_seens m_time m_name) sz) ([(hM, .inr (7, [.ref (md 0), .ref (md 1), .int m_taped, .int m_size, .int m_faultKind, .int m_faultPlace, .int m_at, .int m_end, .int m_token, .int m_number, .long m_name, .ref (md 11), .ref (md 12), .ref (md 13), .ref (md 14), .ref (md 15), .ref (md 16), .ref (md 17), .ref (md 18), .ref (md 19), .ref (md 20), .ref (md 21), .ref (md 22), .ref (md 23), .ref (md 24), .ref (md 25), .ref (md 26), .ref (md 27), .ref (md 28), .int m_bank, .int m_rb, .int m_codes, .int m_within, .int m_piled, .int m_unitsInRule, .int m_askFrom, .int m_askTo, .int m_askWrite, .int m_askUnder, .int m_askBack, .ref (md 40), .ref (md 41), .int m_thoughtSlow, .int m_came, .ref (md 44), .int m_acts, .int m_undone, .ref (md 47), .ref (md 48), .int m_laid, .ref (md 50), .ref (md 51), .ref (md 52), .ref (md 53), .ref (md 54), .int m_seens, .int m_time, .ref (md 57), .ref (md 58)])), (md 20, .inl (cyI, 2, .inl m_ruleFrom)), (md 21, .inl (cyI, 2, .inl m_ruleTo)), (md 24, .inl (cyI, 1120, .inl m_code)), (md 25, .inl (cyI, 1120, .inl m_codeNumber)), (md 28, .inl (cyI, 60, .inl (u.1 0))), (md 40, .inl (cyI, 520, .inl m_all))]) t.heap) (va_A (wc_k_M_comes cyB cyI cyJ cyZ cyO hM md m_ruleFrom m_ruleTo m_code m_codeNumber m_pile m_all m_taped m_size m_faultKind m_faultPlace m_at m_end m_token m_number m_bank m_rb m_codes m_within m_piled m_unitsInRule m_askFrom m_askTo m_askWrite m_askUnder m_askBack m_thoughtSlow m_came m_acts m_undone m_laid m_seens m_time m_name) sz)) 0 0 (va_A (wc_k_M_comes cyB cyI cyJ cyZ cyO hM md m_ruleFrom m_ruleTo m_code m_codeNumber m_pile m_all m_taped m_size m_faultKind m_faultPlace m_at m_end m_token m_number m_bank m_rb m_codes m_within m_piled m_unitsInRule m_askFrom m_askTo m_askWrite m_askUnder m_askBack m_thoughtSlow m_came m_acts m_undone m_laid m_seens m_time m_name) sz) := by
  refine Met.ofW (cc := cX7_comes) (maxL := 4) (ret := (some .int)) (by decide) rfl ?_
  intro p e s m args below meth c s₁ B hml hv
  obtain ⟨rfl, hsz, hP, hKN, hD0⟩ := hv
  have hx := B.exec
  have hb := B.bytes
  have hr := B.returns
  have hts := atoms_spec (ws := wq_k_M_comes) B.pre
  have hown : s.vm.findClass RX7 = some m.cls := findClass_of_methodNamed B.named
  have hlocks := B.notSynchronized
  have hK := hKN.1
  have hfix : CallFix p m c cX7_comes 4 s [.ref hM].toArray wq_k_M_comes RX7 := ⟨hx, hb, hml, hown, hts⟩
  have hi7 : ∀ w ∈ wsX70, w ∈ wq_k_M_comes := (sb_c (sb_r (sb_r (sb_r sb_l))))
  subst hsz
  have hD := hD0.self (sz := s.heap.size)
  generalize hAe : va_A (wc_k_M_comes cyB cyI cyJ cyZ cyO hM md m_ruleFrom m_ruleTo m_code m_codeNumber m_pile m_all m_taped m_size m_faultKind m_faultPlace m_at m_end m_token m_number m_bank m_rb m_codes m_within m_piled m_unitsInRule m_askFrom m_askTo m_askWrite m_askUnder m_askBack m_thoughtSlow m_came m_acts m_undone m_laid m_seens m_time m_name) s.heap.size = A at hD ⊢
  have hA : ∀ q : Nat, s.heap.size ≤ q → A q := fun q h => by rw [← hAe]; exact Or.inr h
  have hS : va_S A s.heap s.heap [] := va_S.rf
  have hl := lv_entry ([.ref hM]) (n := 4) (Nat.le_of_ble_eq_true rfl)
  rw [lg_entry_eq]
  generalize (lg_sl ([.ref hM]) ++ List.replicate (4 - (lg_sl ([.ref hM])).length) Slot.unset).toArray = ls at hl ⊢
  have hl : lv_has ls 4 [(0, .ref hM)] := hl
  have ck0 : (0 : Int32).toInt = 0 := by decide
  have ck1 : (1 : Int32).toInt = 1 := by decide
  refine lv_iconst (v := 0) hx hb dX7_comes_0 (by decide) ?_
  refine lv_istore_n (lv' := [(1, .int 0), (0, .ref hM)]) hx hb dX7_comes_1 rfl hl (by decide) rfl (fun ls hl => ?_)
  refine lv_aload_n hx hb dX7_comes_2 rfl (lv_at hl 1 rfl) ?_
  refine va_get (D := (dC, dI)) (ci := 7) (v := .ref (md 20)) (C := RX7) (T := TX7) (N := 59) hx hb hts hi7 hown hK hP 0 rfl rfl 20 (by decide) (hts _ (ow_m (k := 0) rfl)) (fun _ h9 => h9) rfl dX7_comes_3 ?_
  refine lv_aload_n hx hb dX7_comes_6 rfl (lv_at hl 1 rfl) ?_
  refine va_get (D := (dC, dI)) (ci := 7) (v := .int m_bank) (C := RX7) (T := TX7) (N := 59) hx hb hts hi7 hown hK hP 0 rfl rfl 29 (by decide) (hts _ (ow_m (k := 1) rfl)) (fun _ h9 => h9) rfl dX7_comes_7 ?_
  refine va_iald hx hb hK hP 1 1 rfl rfl (vp_i rfl (by omega) (by omega)) dX7_comes_10 ?_
  refine lv_topi (fun z14352 ez14352 => ?_)
  refine lv_istore_n (lv' := [(2, .int z14352), (1, .int 0), (0, .ref hM)]) hx hb dX7_comes_11 rfl hl (by decide) rfl (fun ls hl => ?_)
  obtain ⟨k0, k1, k2, k3, nE, hh, hh0, hh1, hh2⟩ := CI.at hCI l_m_bank u_m_bank
  have hHt : hh z14352.toNatClampNeg = (0 : Int32).toInt := by rw [ez14352, hh0]; decide
  have hrf : (m_ruleFrom m_bank.toNatClampNeg).toInt ≤ z14352.toInt := by rw [ez14352]; exact Int.le_refl _
  have hrg : 0 ≤ z14352.toInt ∧ z14352.toInt ≤ 1120 := by rw [ez14352]; omega
  refine w_gen (fun H locs ls hP hS hl => ?_) hP hS hl
  obtain ⟨f14353, v14354, v14355, hl2, hP2, hD2, b14356, b14357, b14358, b14359, hHt, hrf⟩ : ∃ (f14353 : Nat → Int32) (v14354 : Int32) (v14355 : Int32), lv_has ls 4 [(2, .int v14355), (1, .int v14354), (0, .ref hM)] ∧ va_P (dC, dI) vwCl [(hM, .inr (7, [.ref (md 0), .ref (md 1), .int m_taped, .int m_size, .int m_faultKind, .int m_faultPlace, .int m_at, .int m_end, .int m_token, .int m_number, .long m_name, .ref (md 11), .ref (md 12), .ref (md 13), .ref (md 14), .ref (md 15), .ref (md 16), .ref (md 17), .ref (md 18), .ref (md 19), .ref (md 20), .ref (md 21), .ref (md 22), .ref (md 23), .ref (md 24), .ref (md 25), .ref (md 26), .ref (md 27), .ref (md 28), .int m_bank, .int m_rb, .int m_codes, .int m_within, .int m_piled, .int m_unitsInRule, .int m_askFrom, .int m_askTo, .int m_askWrite, .int m_askUnder, .int m_askBack, .ref (md 40), .ref (md 41), .int m_thoughtSlow, .int m_came, .ref (md 44), .int m_acts, .int m_undone, .ref (md 47), .ref (md 48), .int m_laid, .ref (md 50), .ref (md 51), .ref (md 52), .ref (md 53), .ref (md 54), .int m_seens, .int m_time, .ref (md 57), .ref (md 58)])), (md 20, .inl (cyI, 2, .inl m_ruleFrom)), (md 21, .inl (cyI, 2, .inl m_ruleTo)), (md 24, .inl (cyI, 1120, .inl m_code)), (md 25, .inl (cyI, 1120, .inl m_codeNumber)), (md 28, .inl (cyI, 60, .inl f14353)), (md 40, .inl (cyI, 520, .inl m_all))] H ∧ va_D A [(hM, .inr (7, [.ref (md 0), .ref (md 1), .int m_taped, .int m_size, .int m_faultKind, .int m_faultPlace, .int m_at, .int m_end, .int m_token, .int m_number, .long m_name, .ref (md 11), .ref (md 12), .ref (md 13), .ref (md 14), .ref (md 15), .ref (md 16), .ref (md 17), .ref (md 18), .ref (md 19), .ref (md 20), .ref (md 21), .ref (md 22), .ref (md 23), .ref (md 24), .ref (md 25), .ref (md 26), .ref (md 27), .ref (md 28), .int m_bank, .int m_rb, .int m_codes, .int m_within, .int m_piled, .int m_unitsInRule, .int m_askFrom, .int m_askTo, .int m_askWrite, .int m_askUnder, .int m_askBack, .ref (md 40), .ref (md 41), .int m_thoughtSlow, .int m_came, .ref (md 44), .int m_acts, .int m_undone, .ref (md 47), .ref (md 48), .int m_laid, .ref (md 50), .ref (md 51), .ref (md 52), .ref (md 53), .ref (md 54), .int m_seens, .int m_time, .ref (md 57), .ref (md 58)])), (md 20, .inl (cyI, 2, .inl m_ruleFrom)), (md 21, .inl (cyI, 2, .inl m_ruleTo)), (md 24, .inl (cyI, 1120, .inl m_code)), (md 25, .inl (cyI, 1120, .inl m_codeNumber)), (md 28, .inl (cyI, 60, .inl f14353)), (md 40, .inl (cyI, 520, .inl m_all))] ∧ (0 ≤ v14354.toInt) ∧ (v14354.toInt ≤ 60) ∧ (0 ≤ v14355.toInt) ∧ (v14355.toInt ≤ 1120) ∧ (hh v14355.toNatClampNeg = v14354.toInt) ∧ ((m_ruleFrom m_bank.toNatClampNeg).toInt ≤ v14355.toInt) := ⟨m_pile, (0 : Int32), z14352, hl, hP, hD, by first | assumption | omega, by first | assumption | omega, by first | assumption | omega, by first | assumption | omega, by first | assumption | omega, by first | assumption | omega⟩
  clear hP hl
  have hP := hP2
  have hD := hD2
  have hl := hl2
  clear hP2 hD2 hl2
  obtain ⟨n14360, hn14360⟩ : ∃ n : Nat, 1120 - v14355.toInt < (n : Int) := ⟨(1120 - v14355.toInt).toNat + 1, by omega⟩
  induction n14360 generalizing f14353 v14354 v14355 H locs ls with
  | zero => exfalso; omega
  | succ n14360 ih14361 =>
    refine lv_iload_n hx hb dX7_comes_12 rfl (lv_at hl 0 rfl) ?_
    refine lv_aload_n hx hb dX7_comes_13 rfl (lv_at hl 2 rfl) ?_
    refine va_get (D := (dC, dI)) (ci := 7) (v := .ref (md 21)) (C := RX7) (T := TX7) (N := 59) hx hb hts hi7 hown hK hP 0 rfl rfl 21 (by decide) (hts _ (ow_m (k := 2) rfl)) (fun _ h9 => h9) rfl dX7_comes_14 ?_
    refine lv_aload_n hx hb dX7_comes_17 rfl (lv_at hl 2 rfl) ?_
    refine va_get (D := (dC, dI)) (ci := 7) (v := .int m_bank) (C := RX7) (T := TX7) (N := 59) hx hb hts hi7 hown hK hP 0 rfl rfl 29 (by decide) (hts _ (ow_m (k := 1) rfl)) (fun _ h9 => h9) rfl dX7_comes_18 ?_
    refine va_iald hx hb hK hP 2 1 rfl rfl (vp_i rfl (by omega) (by omega)) dX7_comes_21 ?_
    refine lv_topi (fun z14362 ez14362 => ?_)
    refine lv_icmp_ge (tgt := 130) hx hb dX7_comes_22 (by decide) (fun c14363 => ?_) (fun c14363 => ?_)
    · have c14363 := i_le (a := z14362.toInt) (b := v14355.toInt) c14363 rfl rfl
      refine lv_aload_n hx hb dX7_comes_130 rfl (lv_at hl 2 rfl) ?_
      refine va_get (D := (dC, dI)) (ci := 7) (v := .ref (md 28)) (C := RX7) (T := TX7) (N := 59) hx hb hts hi7 hown hK hP 0 rfl rfl 28 (by decide) (hts _ (ow_m (k := 3) rfl)) (fun _ h9 => h9) rfl dX7_comes_131 ?_
      refine lv_iconst (v := 0) hx hb dX7_comes_134 (by decide) ?_
      refine va_iald hx hb hK hP 5 1 rfl rfl (vp_i (a := 0) (by decide) (by decide) (by decide)) dX7_comes_135 ?_
      refine lv_topi (fun z14364 ez14364 => ?_)
      exact W.iret (v := z14364) hx hb hr (fun t ht hW => ⟨⟨z14364, ((fun _ => f14353), (fun _ => 0), (fun _ => 0), (fun _ => fun _ => 0)), rfl, trivial, cE.of ht hP hD [0, 1, 2, 3, 4, 5, 6] (by decide) rfl⟩, hS.F ht⟩) hS.2.2 dX7_comes_136
    · have c14363 := i_nle (a := z14362.toInt) (b := v14355.toInt) c14363 rfl rfl
      have hrt : v14355.toInt < (m_ruleTo m_bank.toNatClampNeg).toInt := by rw [← ez14362]; omega
      refine lv_aload_n hx hb dX7_comes_25 rfl (lv_at hl 2 rfl) ?_
      refine va_get (D := (dC, dI)) (ci := 7) (v := .ref (md 24)) (C := RX7) (T := TX7) (N := 59) hx hb hts hi7 hown hK hP 0 rfl rfl 24 (by decide) (hts _ (ow_m (k := 4) rfl)) (fun _ h9 => h9) rfl dX7_comes_26 ?_
      refine lv_iload_n hx hb dX7_comes_29 rfl (lv_at hl 0 rfl) ?_
      refine va_iald hx hb hK hP 3 1 rfl rfl (vp_i rfl (by omega) (by omega)) dX7_comes_30 ?_
      refine lv_topi (fun z14365 ez14365 => ?_)
      refine lv_istore_n (lv' := [(3, .int z14365), (2, .int v14355), (1, .int v14354), (0, .ref hM)]) hx hb dX7_comes_31 rfl hl (by decide) rfl (fun ls hl => ?_)
      have hok := hh2 v14355.toNatClampNeg (by show Int.toNat _ ≤ Int.toNat _; omega) (by show Int.toNat _ < Int.toNat _; omega)
      rw [← ez14365, hHt] at hok
      obtain ⟨o1, o2, o3, o4, o5⟩ := hok
      refine lv_iload_n hx hb dX7_comes_32 rfl (lv_at hl 0 rfl) ?_
      refine lv_bipush (v := 126) hx hb dX7_comes_33 (by decide) ?_
      refine lv_icmp_ne (tgt := 65) hx hb dX7_comes_35 (by decide) (fun c14366 => ?_) (fun c14366 => ?_)
      · have c14366 := i_ne (a := z14365.toInt) (b := 126) c14366 rfl (by decide)
        refine lv_iload_n hx hb dX7_comes_65 rfl (lv_at hl 0 rfl) ?_
        refine gf_i (wr := [(hM, .inr (7, [.ref (md 0), .ref (md 1), .int m_taped, .int m_size, .int m_faultKind, .int m_faultPlace, .int m_at, .int m_end, .int m_token, .int m_number, .long m_name, .ref (md 11), .ref (md 12), .ref (md 13), .ref (md 14), .ref (md 15), .ref (md 16), .ref (md 17), .ref (md 18), .ref (md 19), .ref (md 20), .ref (md 21), .ref (md 22), .ref (md 23), .ref (md 24), .ref (md 25), .ref (md 26), .ref (md 27), .ref (md 28), .int m_bank, .int m_rb, .int m_codes, .int m_within, .int m_piled, .int m_unitsInRule, .int m_askFrom, .int m_askTo, .int m_askWrite, .int m_askUnder, .int m_askBack, .ref (md 40), .ref (md 41), .int m_thoughtSlow, .int m_came, .ref (md 44), .int m_acts, .int m_undone, .ref (md 47), .ref (md 48), .int m_laid, .ref (md 50), .ref (md 51), .ref (md 52), .ref (md 53), .ref (md 54), .int m_seens, .int m_time, .ref (md 57), .ref (md 58)])), (md 20, .inl (cyI, 2, .inl m_ruleFrom)), (md 21, .inl (cyI, 2, .inl m_ruleTo)), (md 24, .inl (cyI, 1120, .inl m_code)), (md 25, .inl (cyI, 1120, .inl m_codeNumber)), (md 28, .inl (cyI, 60, .inl f14353)), (md 40, .inl (cyI, 520, .inl m_all))]) (va_runS (As := [.int z14365]) (rest := []) hfix (k_M_isLetter l dC dI cyB cyI cyJ cyZ cyO z14365 _) (va_cwS 1 hts (gi_S (ow_m (k := 5) rfl) (ow_m (k := 6) rfl) (ow_m (k := 7) rfl) (sb_c sb_l) gd_k_M_isLetter) rfl rfl rfl (by decide +kernel) ⟨Nat.le_of_ble_eq_true rfl, Nat.le_of_ble_eq_true rfl⟩) (g_preS hKN hP hD [] rfl (by decide)) rfl rfl hl.1 rfl (lv_room (Nat.le_of_ble_eq_true rfl)) dX7_comes_66 ⟨Nat.le_of_ble_eq_true rfl, Nat.le_of_ble_eq_true rfl⟩) hP hD hS hA [] [0, 1, 2, 3, 4, 5, 6] rfl rfl (by decide) (by decide) (fun r14367 u14368 H locs qu14368 hP hD hS => ?_)
        have b14369 := qu14368
        have hP : va_P (dC, dI) vwCl [(hM, .inr (7, [.ref (md 0), .ref (md 1), .int m_taped, .int m_size, .int m_faultKind, .int m_faultPlace, .int m_at, .int m_end, .int m_token, .int m_number, .long m_name, .ref (md 11), .ref (md 12), .ref (md 13), .ref (md 14), .ref (md 15), .ref (md 16), .ref (md 17), .ref (md 18), .ref (md 19), .ref (md 20), .ref (md 21), .ref (md 22), .ref (md 23), .ref (md 24), .ref (md 25), .ref (md 26), .ref (md 27), .ref (md 28), .int m_bank, .int m_rb, .int m_codes, .int m_within, .int m_piled, .int m_unitsInRule, .int m_askFrom, .int m_askTo, .int m_askWrite, .int m_askUnder, .int m_askBack, .ref (md 40), .ref (md 41), .int m_thoughtSlow, .int m_came, .ref (md 44), .int m_acts, .int m_undone, .ref (md 47), .ref (md 48), .int m_laid, .ref (md 50), .ref (md 51), .ref (md 52), .ref (md 53), .ref (md 54), .int m_seens, .int m_time, .ref (md 57), .ref (md 58)])), (md 20, .inl (cyI, 2, .inl m_ruleFrom)), (md 21, .inl (cyI, 2, .inl m_ruleTo)), (md 24, .inl (cyI, 1120, .inl m_code)), (md 25, .inl (cyI, 1120, .inl m_codeNumber)), (md 28, .inl (cyI, 60, .inl f14353)), (md 40, .inl (cyI, 520, .inl m_all))] H := hP
        have hD : va_D A [(hM, .inr (7, [.ref (md 0), .ref (md 1), .int m_taped, .int m_size, .int m_faultKind, .int m_faultPlace, .int m_at, .int m_end, .int m_token, .int m_number, .long m_name, .ref (md 11), .ref (md 12), .ref (md 13), .ref (md 14), .ref (md 15), .ref (md 16), .ref (md 17), .ref (md 18), .ref (md 19), .ref (md 20), .ref (md 21), .ref (md 22), .ref (md 23), .ref (md 24), .ref (md 25), .ref (md 26), .ref (md 27), .ref (md 28), .int m_bank, .int m_rb, .int m_codes, .int m_within, .int m_piled, .int m_unitsInRule, .int m_askFrom, .int m_askTo, .int m_askWrite, .int m_askUnder, .int m_askBack, .ref (md 40), .ref (md 41), .int m_thoughtSlow, .int m_came, .ref (md 44), .int m_acts, .int m_undone, .ref (md 47), .ref (md 48), .int m_laid, .ref (md 50), .ref (md 51), .ref (md 52), .ref (md 53), .ref (md 54), .int m_seens, .int m_time, .ref (md 57), .ref (md 58)])), (md 20, .inl (cyI, 2, .inl m_ruleFrom)), (md 21, .inl (cyI, 2, .inl m_ruleTo)), (md 24, .inl (cyI, 1120, .inl m_code)), (md 25, .inl (cyI, 1120, .inl m_codeNumber)), (md 28, .inl (cyI, 60, .inl f14353)), (md 40, .inl (cyI, 520, .inl m_all))] := hD
        rcases b14369 with ⟨rfl, b14370, b14371⟩ | ⟨rfl, b14372⟩
        · skip
          refine lv_if_eq (tgt := 95) hx hb dX7_comes_69 (by decide) (fun c14373 => absurd c14373 (by decide)) (fun _ => ?_)
          refine lv_aload_n hx hb dX7_comes_72 rfl (lv_at hl 3 rfl) ?_
          refine va_get (D := (dC, dI)) (ci := 7) (v := .ref (md 28)) (C := RX7) (T := TX7) (N := 59) hx hb hts hi7 hown hK hP 0 rfl rfl 28 (by decide) (hts _ (ow_m (k := 3) rfl)) (fun _ h9 => h9) rfl dX7_comes_73 ?_
          refine lv_iload_n hx hb dX7_comes_76 rfl (lv_at hl 2 rfl) ?_
          refine lv_aload_n hx hb dX7_comes_77 rfl (lv_at hl 3 rfl) ?_
          refine lv_iload_n hx hb dX7_comes_78 rfl (lv_at hl 0 rfl) ?_
          refine lv_aload_n hx hb dX7_comes_79 rfl (lv_at hl 3 rfl) ?_
          refine va_get (D := (dC, dI)) (ci := 7) (v := .ref (md 25)) (C := RX7) (T := TX7) (N := 59) hx hb hts hi7 hown hK hP 0 rfl rfl 25 (by decide) (hts _ (ow_m (k := 8) rfl)) (fun _ h9 => h9) rfl dX7_comes_80 ?_
          refine lv_iload_n hx hb dX7_comes_83 rfl (lv_at hl 1 rfl) ?_
          refine va_iald hx hb hK hP 4 1 rfl rfl (vp_i rfl (by omega) (by omega)) dX7_comes_84 ?_
          refine lv_topi (fun z14374 ez14374 => ?_)
          refine gf_i (wr := [(md 20, .inl (cyI, 2, .inl m_ruleFrom)), (md 21, .inl (cyI, 2, .inl m_ruleTo)), (md 24, .inl (cyI, 1120, .inl m_code)), (md 25, .inl (cyI, 1120, .inl m_codeNumber)), (md 28, .inl (cyI, 60, .inl f14353))]) (va_runV (As := [.int z14365, .int z14374]) (rest := [.int v14354, .ref (md 28)]) hfix (k_M_asked l dC dI cyB cyI cyJ cyZ cyO hM md m_all m_taped m_size m_faultKind m_faultPlace m_at m_end m_token m_number m_bank m_rb m_codes m_within m_piled m_unitsInRule m_askFrom m_askTo m_askWrite m_askUnder m_askBack m_thoughtSlow m_came m_acts m_undone m_laid m_seens m_time m_name z14365 z14374 _ (by first | omega | assumption) (by first | omega | assumption) (by first | omega | assumption) (by first | omega | assumption) (by first | omega | assumption) (by first | omega | assumption) (by first | omega | assumption) (by first | omega | assumption) (by first | omega | assumption) (by first | omega | assumption) (by first | omega | assumption) (by first | omega | assumption) (by first | omega | assumption) (by first | omega | assumption) (by first | omega | assumption) (by first | omega | assumption) (by first | omega | assumption) (by first | omega | assumption) i0_m_all i1_m_all i2_m_all i3_m_all i4_m_all i5_m_all) (cwV 2 hts (gi_V (ow_m (k := 9) rfl) (ow_m (k := 10) rfl) (ow_m (k := 11) rfl) (ow_m (k := 7) rfl) (sb_c (sb_r sb_l)) gd_k_M_asked) rfl rfl rfl (by decide +kernel) ⟨Nat.le_of_ble_eq_true rfl, Nat.le_of_ble_eq_true rfl⟩) (g_preV hKN hP hD [0, 6] rfl (by decide) 0 7 rfl rfl) rfl rfl hl.1 rfl (lv_room (Nat.le_of_ble_eq_true rfl)) dX7_comes_85 ⟨Nat.le_of_ble_eq_true rfl, Nat.le_of_ble_eq_true rfl⟩) hP hD hS hA [0, 6] [1, 2, 3, 4, 5] rfl rfl (by decide) (by decide) (fun r14375 u14376 H locs qu14376 hP hD hS => ?_)
          have hP : va_P (dC, dI) vwCl [(md 20, .inl (cyI, 2, .inl m_ruleFrom)), (md 21, .inl (cyI, 2, .inl m_ruleTo)), (md 24, .inl (cyI, 1120, .inl m_code)), (md 25, .inl (cyI, 1120, .inl m_codeNumber)), (md 28, .inl (cyI, 60, .inl f14353)), (hM, .inr (7, [.ref (md 0), .ref (md 1), .int m_taped, .int m_size, .int m_faultKind, .int m_faultPlace, .int m_at, .int m_end, .int m_token, .int m_number, .long m_name, .ref (md 11), .ref (md 12), .ref (md 13), .ref (md 14), .ref (md 15), .ref (md 16), .ref (md 17), .ref (md 18), .ref (md 19), .ref (md 20), .ref (md 21), .ref (md 22), .ref (md 23), .ref (md 24), .ref (md 25), .ref (md 26), .ref (md 27), .ref (md 28), .int m_bank, .int m_rb, .int m_codes, .int m_within, .int m_piled, .int m_unitsInRule, .int m_askFrom, .int m_askTo, .int m_askWrite, .int m_askUnder, .int m_askBack, .ref (md 40), .ref (md 41), .int m_thoughtSlow, .int m_came, .ref (md 44), .int m_acts, .int m_undone, .ref (md 47), .ref (md 48), .int m_laid, .ref (md 50), .ref (md 51), .ref (md 52), .ref (md 53), .ref (md 54), .int m_seens, .int m_time, .ref (md 57), .ref (md 58)])), (md 40, .inl (cyI, 520, .inl m_all))] H := hP
          have hD : va_D A [(md 20, .inl (cyI, 2, .inl m_ruleFrom)), (md 21, .inl (cyI, 2, .inl m_ruleTo)), (md 24, .inl (cyI, 1120, .inl m_code)), (md 25, .inl (cyI, 1120, .inl m_codeNumber)), (md 28, .inl (cyI, 60, .inl f14353)), (hM, .inr (7, [.ref (md 0), .ref (md 1), .int m_taped, .int m_size, .int m_faultKind, .int m_faultPlace, .int m_at, .int m_end, .int m_token, .int m_number, .long m_name, .ref (md 11), .ref (md 12), .ref (md 13), .ref (md 14), .ref (md 15), .ref (md 16), .ref (md 17), .ref (md 18), .ref (md 19), .ref (md 20), .ref (md 21), .ref (md 22), .ref (md 23), .ref (md 24), .ref (md 25), .ref (md 26), .ref (md 27), .ref (md 28), .int m_bank, .int m_rb, .int m_codes, .int m_within, .int m_piled, .int m_unitsInRule, .int m_askFrom, .int m_askTo, .int m_askWrite, .int m_askUnder, .int m_askBack, .ref (md 40), .ref (md 41), .int m_thoughtSlow, .int m_came, .ref (md 44), .int m_acts, .int m_undone, .ref (md 47), .ref (md 48), .int m_laid, .ref (md 50), .ref (md 51), .ref (md 52), .ref (md 53), .ref (md 54), .int m_seens, .int m_time, .ref (md 57), .ref (md 58)])), (md 40, .inl (cyI, 520, .inl m_all))] := hD
          refine va_iast hx hb hK hP hD hS 4 1 rfl rfl (vp_i rfl (by omega) (by omega)) dX7_comes_88 (fun H locs hP hD hS => ?_)
          have hP : va_P (dC, dI) vwCl [(md 20, .inl (cyI, 2, .inl m_ruleFrom)), (md 21, .inl (cyI, 2, .inl m_ruleTo)), (md 24, .inl (cyI, 1120, .inl m_code)), (md 25, .inl (cyI, 1120, .inl m_codeNumber)), (md 28, .inl (cyI, 60, .inl (upd f14353 v14354.toNatClampNeg r14375))), (hM, .inr (7, [.ref (md 0), .ref (md 1), .int m_taped, .int m_size, .int m_faultKind, .int m_faultPlace, .int m_at, .int m_end, .int m_token, .int m_number, .long m_name, .ref (md 11), .ref (md 12), .ref (md 13), .ref (md 14), .ref (md 15), .ref (md 16), .ref (md 17), .ref (md 18), .ref (md 19), .ref (md 20), .ref (md 21), .ref (md 22), .ref (md 23), .ref (md 24), .ref (md 25), .ref (md 26), .ref (md 27), .ref (md 28), .int m_bank, .int m_rb, .int m_codes, .int m_within, .int m_piled, .int m_unitsInRule, .int m_askFrom, .int m_askTo, .int m_askWrite, .int m_askUnder, .int m_askBack, .ref (md 40), .ref (md 41), .int m_thoughtSlow, .int m_came, .ref (md 44), .int m_acts, .int m_undone, .ref (md 47), .ref (md 48), .int m_laid, .ref (md 50), .ref (md 51), .ref (md 52), .ref (md 53), .ref (md 54), .int m_seens, .int m_time, .ref (md 57), .ref (md 58)])), (md 40, .inl (cyI, 520, .inl m_all))] H := hP
          have hD : va_D A [(md 20, .inl (cyI, 2, .inl m_ruleFrom)), (md 21, .inl (cyI, 2, .inl m_ruleTo)), (md 24, .inl (cyI, 1120, .inl m_code)), (md 25, .inl (cyI, 1120, .inl m_codeNumber)), (md 28, .inl (cyI, 60, .inl (upd f14353 v14354.toNatClampNeg r14375))), (hM, .inr (7, [.ref (md 0), .ref (md 1), .int m_taped, .int m_size, .int m_faultKind, .int m_faultPlace, .int m_at, .int m_end, .int m_token, .int m_number, .long m_name, .ref (md 11), .ref (md 12), .ref (md 13), .ref (md 14), .ref (md 15), .ref (md 16), .ref (md 17), .ref (md 18), .ref (md 19), .ref (md 20), .ref (md 21), .ref (md 22), .ref (md 23), .ref (md 24), .ref (md 25), .ref (md 26), .ref (md 27), .ref (md 28), .int m_bank, .int m_rb, .int m_codes, .int m_within, .int m_piled, .int m_unitsInRule, .int m_askFrom, .int m_askTo, .int m_askWrite, .int m_askUnder, .int m_askBack, .ref (md 40), .ref (md 41), .int m_thoughtSlow, .int m_came, .ref (md 44), .int m_acts, .int m_undone, .ref (md 47), .ref (md 48), .int m_laid, .ref (md 50), .ref (md 51), .ref (md 52), .ref (md 53), .ref (md 54), .int m_seens, .int m_time, .ref (md 57), .ref (md 58)])), (md 40, .inl (cyI, 520, .inl m_all))] := hD
          generalize ef14377 : upd f14353 v14354.toNatClampNeg r14375 = f14377 at hP hD
          obtain ⟨z14378, ez14378⟩ : ∃ y : Int32, y = v14354 + 1 := ⟨_, rfl⟩
          have tz14378 := ti_add (a := v14354.toInt) (b := 1) ez14378 rfl (by decide) (by omega) (by omega)
          refine lv_iinc (v := z14378) (lv' := [(1, .int z14378), (3, .int z14365), (2, .int v14355), (0, .ref hM)]) hx hb dX7_comes_89 hl (k := 2) rfl (by rw [ez14378]; rfl) (by decide) rfl (fun ls hl => ?_)
          refine lv_goto (tgt := 124) hx hb dX7_comes_92 (by decide) ?_
          obtain ⟨z14379, ez14379⟩ : ∃ y : Int32, y = v14355 + 1 := ⟨_, rfl⟩
          have tz14379 := ti_add (a := v14355.toInt) (b := 1) ez14379 rfl (by decide) (by omega) (by omega)
          refine lv_iinc (v := z14379) (lv' := [(2, .int z14379), (1, .int z14378), (3, .int z14365), (0, .ref hM)]) hx hb dX7_comes_124 hl (k := 2) rfl (by rw [ez14379]; rfl) (by decide) rfl (fun ls hl => ?_)
          refine lv_goto (tgt := 12) hx hb dX7_comes_127 (by decide) ?_
          have hl := lv_sub (l' := [(2, .int z14379), (1, .int z14378), (0, .ref hM)]) hl [0, 1, 3] rfl
          have hP : va_P (dC, dI) vwCl [(hM, .inr (7, [.ref (md 0), .ref (md 1), .int m_taped, .int m_size, .int m_faultKind, .int m_faultPlace, .int m_at, .int m_end, .int m_token, .int m_number, .long m_name, .ref (md 11), .ref (md 12), .ref (md 13), .ref (md 14), .ref (md 15), .ref (md 16), .ref (md 17), .ref (md 18), .ref (md 19), .ref (md 20), .ref (md 21), .ref (md 22), .ref (md 23), .ref (md 24), .ref (md 25), .ref (md 26), .ref (md 27), .ref (md 28), .int m_bank, .int m_rb, .int m_codes, .int m_within, .int m_piled, .int m_unitsInRule, .int m_askFrom, .int m_askTo, .int m_askWrite, .int m_askUnder, .int m_askBack, .ref (md 40), .ref (md 41), .int m_thoughtSlow, .int m_came, .ref (md 44), .int m_acts, .int m_undone, .ref (md 47), .ref (md 48), .int m_laid, .ref (md 50), .ref (md 51), .ref (md 52), .ref (md 53), .ref (md 54), .int m_seens, .int m_time, .ref (md 57), .ref (md 58)])), (md 20, .inl (cyI, 2, .inl m_ruleFrom)), (md 21, .inl (cyI, 2, .inl m_ruleTo)), (md 24, .inl (cyI, 1120, .inl m_code)), (md 25, .inl (cyI, 1120, .inl m_codeNumber)), (md 28, .inl (cyI, 60, .inl f14377)), (md 40, .inl (cyI, 520, .inl m_all))] H := g_sub (isC := [5, 0, 1, 2, 3, 4, 6]) hP rfl
          have hD : va_D A [(hM, .inr (7, [.ref (md 0), .ref (md 1), .int m_taped, .int m_size, .int m_faultKind, .int m_faultPlace, .int m_at, .int m_end, .int m_token, .int m_number, .long m_name, .ref (md 11), .ref (md 12), .ref (md 13), .ref (md 14), .ref (md 15), .ref (md 16), .ref (md 17), .ref (md 18), .ref (md 19), .ref (md 20), .ref (md 21), .ref (md 22), .ref (md 23), .ref (md 24), .ref (md 25), .ref (md 26), .ref (md 27), .ref (md 28), .int m_bank, .int m_rb, .int m_codes, .int m_within, .int m_piled, .int m_unitsInRule, .int m_askFrom, .int m_askTo, .int m_askWrite, .int m_askUnder, .int m_askBack, .ref (md 40), .ref (md 41), .int m_thoughtSlow, .int m_came, .ref (md 44), .int m_acts, .int m_undone, .ref (md 47), .ref (md 48), .int m_laid, .ref (md 50), .ref (md 51), .ref (md 52), .ref (md 53), .ref (md 54), .int m_seens, .int m_time, .ref (md 57), .ref (md 58)])), (md 20, .inl (cyI, 2, .inl m_ruleFrom)), (md 21, .inl (cyI, 2, .inl m_ruleTo)), (md 24, .inl (cyI, 1120, .inl m_code)), (md 25, .inl (cyI, 1120, .inl m_codeNumber)), (md 28, .inl (cyI, 60, .inl f14377)), (md 40, .inl (cyI, 520, .inl m_all))] := hD.sub [5, 0, 1, 2, 3, 4, 6] (by decide) rfl
          have hHt : hh z14379.toNatClampNeg = z14378.toInt := by
            have e9 : z14379.toNatClampNeg = v14355.toNatClampNeg + 1 := by show Int.toNat _ = Int.toNat _ + 1; omega
            rw [e9]
            omega
          apply ih14361 (f14353 := f14377) (v14354 := z14378) (v14355 := z14379) (H := H) (locs := locs) (ls := ls) <;> first | assumption | omega
        · skip
          refine lv_if_eq (tgt := 95) hx hb dX7_comes_69 (by decide) (fun _ => ?_) (fun c14380 => absurd (by decide) c14380)
          obtain ⟨z14381, ez14381⟩ : ∃ y : Int32, y = v14354 + (-1) := ⟨_, rfl⟩
          have tz14381 := ti_add (a := v14354.toInt) (b := (-1)) ez14381 rfl (by decide) (by omega) (by omega)
          refine lv_iinc (v := z14381) (lv' := [(1, .int z14381), (3, .int z14365), (2, .int v14355), (0, .ref hM)]) hx hb dX7_comes_95 hl (k := 2) rfl (by rw [ez14381]; rfl) (by decide) rfl (fun ls hl => ?_)
          refine lv_aload_n hx hb dX7_comes_98 rfl (lv_at hl 3 rfl) ?_
          refine va_get (D := (dC, dI)) (ci := 7) (v := .ref (md 28)) (C := RX7) (T := TX7) (N := 59) hx hb hts hi7 hown hK hP 0 rfl rfl 28 (by decide) (hts _ (ow_m (k := 3) rfl)) (fun _ h9 => h9) rfl dX7_comes_99 ?_
          refine lv_iload_n hx hb dX7_comes_102 rfl (lv_at hl 0 rfl) ?_
          refine lv_iconst (v := 1) hx hb dX7_comes_103 (by decide) ?_
          refine lv_isub hx hb dX7_comes_104 ?_
          refine lv_topi (fun z14382 ez14382 => ?_)
          have tz14382 := ti_sub (a := z14381.toInt) (b := 1) ez14382 rfl (by decide) (by omega) (by omega)
          refine lv_iload_n hx hb dX7_comes_105 rfl (lv_at hl 1 rfl) ?_
          refine lv_aload_n hx hb dX7_comes_106 rfl (lv_at hl 3 rfl) ?_
          refine va_get (D := (dC, dI)) (ci := 7) (v := .ref (md 28)) (C := RX7) (T := TX7) (N := 59) hx hb hts hi7 hown hK hP 0 rfl rfl 28 (by decide) (hts _ (ow_m (k := 3) rfl)) (fun _ h9 => h9) rfl dX7_comes_107 ?_
          refine lv_iload_n hx hb dX7_comes_110 rfl (lv_at hl 0 rfl) ?_
          refine lv_iconst (v := 1) hx hb dX7_comes_111 (by decide) ?_
          refine lv_isub hx hb dX7_comes_112 ?_
          refine lv_topi (fun z14383 ez14383 => ?_)
          have tz14383 := ti_sub (a := z14381.toInt) (b := 1) ez14383 rfl (by decide) (by omega) (by omega)
          refine va_iald hx hb hK hP 5 1 rfl rfl (vp_i rfl (by omega) (by omega)) dX7_comes_113 ?_
          refine lv_topi (fun z14384 ez14384 => ?_)
          refine lv_aload_n hx hb dX7_comes_114 rfl (lv_at hl 3 rfl) ?_
          refine va_get (D := (dC, dI)) (ci := 7) (v := .ref (md 28)) (C := RX7) (T := TX7) (N := 59) hx hb hts hi7 hown hK hP 0 rfl rfl 28 (by decide) (hts _ (ow_m (k := 3) rfl)) (fun _ h9 => h9) rfl dX7_comes_115 ?_
          refine lv_iload_n hx hb dX7_comes_118 rfl (lv_at hl 0 rfl) ?_
          refine va_iald hx hb hK hP 5 1 rfl rfl (vp_i rfl (by omega) (by omega)) dX7_comes_119 ?_
          refine lv_topi (fun z14385 ez14385 => ?_)
          refine gf_i (wr := [(hM, .inr (7, [.ref (md 0), .ref (md 1), .int m_taped, .int m_size, .int m_faultKind, .int m_faultPlace, .int m_at, .int m_end, .int m_token, .int m_number, .long m_name, .ref (md 11), .ref (md 12), .ref (md 13), .ref (md 14), .ref (md 15), .ref (md 16), .ref (md 17), .ref (md 18), .ref (md 19), .ref (md 20), .ref (md 21), .ref (md 22), .ref (md 23), .ref (md 24), .ref (md 25), .ref (md 26), .ref (md 27), .ref (md 28), .int m_bank, .int m_rb, .int m_codes, .int m_within, .int m_piled, .int m_unitsInRule, .int m_askFrom, .int m_askTo, .int m_askWrite, .int m_askUnder, .int m_askBack, .ref (md 40), .ref (md 41), .int m_thoughtSlow, .int m_came, .ref (md 44), .int m_acts, .int m_undone, .ref (md 47), .ref (md 48), .int m_laid, .ref (md 50), .ref (md 51), .ref (md 52), .ref (md 53), .ref (md 54), .int m_seens, .int m_time, .ref (md 57), .ref (md 58)])), (md 20, .inl (cyI, 2, .inl m_ruleFrom)), (md 21, .inl (cyI, 2, .inl m_ruleTo)), (md 24, .inl (cyI, 1120, .inl m_code)), (md 25, .inl (cyI, 1120, .inl m_codeNumber)), (md 28, .inl (cyI, 60, .inl f14353)), (md 40, .inl (cyI, 520, .inl m_all))]) (va_runS (As := [.int z14365, .int z14384, .int z14385]) (rest := [.int z14382, .ref (md 28)]) hfix (k_M_two l dC dI cyB cyI cyJ cyZ cyO z14365 z14384 z14385 _) (va_cwS 3 hts (gi_S (ow_m (k := 12) rfl) (ow_m (k := 13) rfl) (ow_m (k := 7) rfl) (sb_c (sb_r (sb_r sb_l))) gd_k_M_two) rfl rfl rfl (by decide +kernel) ⟨Nat.le_of_ble_eq_true rfl, Nat.le_of_ble_eq_true rfl⟩) (g_preS hKN hP hD [] rfl (by decide)) rfl rfl hl.1 rfl (lv_room (Nat.le_of_ble_eq_true rfl)) dX7_comes_120 ⟨Nat.le_of_ble_eq_true rfl, Nat.le_of_ble_eq_true rfl⟩) hP hD hS hA [] [0, 1, 2, 3, 4, 5, 6] rfl rfl (by decide) (by decide) (fun r14386 u14387 H locs qu14387 hP hD hS => ?_)
          have hP : va_P (dC, dI) vwCl [(hM, .inr (7, [.ref (md 0), .ref (md 1), .int m_taped, .int m_size, .int m_faultKind, .int m_faultPlace, .int m_at, .int m_end, .int m_token, .int m_number, .long m_name, .ref (md 11), .ref (md 12), .ref (md 13), .ref (md 14), .ref (md 15), .ref (md 16), .ref (md 17), .ref (md 18), .ref (md 19), .ref (md 20), .ref (md 21), .ref (md 22), .ref (md 23), .ref (md 24), .ref (md 25), .ref (md 26), .ref (md 27), .ref (md 28), .int m_bank, .int m_rb, .int m_codes, .int m_within, .int m_piled, .int m_unitsInRule, .int m_askFrom, .int m_askTo, .int m_askWrite, .int m_askUnder, .int m_askBack, .ref (md 40), .ref (md 41), .int m_thoughtSlow, .int m_came, .ref (md 44), .int m_acts, .int m_undone, .ref (md 47), .ref (md 48), .int m_laid, .ref (md 50), .ref (md 51), .ref (md 52), .ref (md 53), .ref (md 54), .int m_seens, .int m_time, .ref (md 57), .ref (md 58)])), (md 20, .inl (cyI, 2, .inl m_ruleFrom)), (md 21, .inl (cyI, 2, .inl m_ruleTo)), (md 24, .inl (cyI, 1120, .inl m_code)), (md 25, .inl (cyI, 1120, .inl m_codeNumber)), (md 28, .inl (cyI, 60, .inl f14353)), (md 40, .inl (cyI, 520, .inl m_all))] H := hP
          have hD : va_D A [(hM, .inr (7, [.ref (md 0), .ref (md 1), .int m_taped, .int m_size, .int m_faultKind, .int m_faultPlace, .int m_at, .int m_end, .int m_token, .int m_number, .long m_name, .ref (md 11), .ref (md 12), .ref (md 13), .ref (md 14), .ref (md 15), .ref (md 16), .ref (md 17), .ref (md 18), .ref (md 19), .ref (md 20), .ref (md 21), .ref (md 22), .ref (md 23), .ref (md 24), .ref (md 25), .ref (md 26), .ref (md 27), .ref (md 28), .int m_bank, .int m_rb, .int m_codes, .int m_within, .int m_piled, .int m_unitsInRule, .int m_askFrom, .int m_askTo, .int m_askWrite, .int m_askUnder, .int m_askBack, .ref (md 40), .ref (md 41), .int m_thoughtSlow, .int m_came, .ref (md 44), .int m_acts, .int m_undone, .ref (md 47), .ref (md 48), .int m_laid, .ref (md 50), .ref (md 51), .ref (md 52), .ref (md 53), .ref (md 54), .int m_seens, .int m_time, .ref (md 57), .ref (md 58)])), (md 20, .inl (cyI, 2, .inl m_ruleFrom)), (md 21, .inl (cyI, 2, .inl m_ruleTo)), (md 24, .inl (cyI, 1120, .inl m_code)), (md 25, .inl (cyI, 1120, .inl m_codeNumber)), (md 28, .inl (cyI, 60, .inl f14353)), (md 40, .inl (cyI, 520, .inl m_all))] := hD
          refine va_iast hx hb hK hP hD hS 5 1 rfl rfl (vp_i rfl (by omega) (by omega)) dX7_comes_123 (fun H locs hP hD hS => ?_)
          have hP : va_P (dC, dI) vwCl [(hM, .inr (7, [.ref (md 0), .ref (md 1), .int m_taped, .int m_size, .int m_faultKind, .int m_faultPlace, .int m_at, .int m_end, .int m_token, .int m_number, .long m_name, .ref (md 11), .ref (md 12), .ref (md 13), .ref (md 14), .ref (md 15), .ref (md 16), .ref (md 17), .ref (md 18), .ref (md 19), .ref (md 20), .ref (md 21), .ref (md 22), .ref (md 23), .ref (md 24), .ref (md 25), .ref (md 26), .ref (md 27), .ref (md 28), .int m_bank, .int m_rb, .int m_codes, .int m_within, .int m_piled, .int m_unitsInRule, .int m_askFrom, .int m_askTo, .int m_askWrite, .int m_askUnder, .int m_askBack, .ref (md 40), .ref (md 41), .int m_thoughtSlow, .int m_came, .ref (md 44), .int m_acts, .int m_undone, .ref (md 47), .ref (md 48), .int m_laid, .ref (md 50), .ref (md 51), .ref (md 52), .ref (md 53), .ref (md 54), .int m_seens, .int m_time, .ref (md 57), .ref (md 58)])), (md 20, .inl (cyI, 2, .inl m_ruleFrom)), (md 21, .inl (cyI, 2, .inl m_ruleTo)), (md 24, .inl (cyI, 1120, .inl m_code)), (md 25, .inl (cyI, 1120, .inl m_codeNumber)), (md 28, .inl (cyI, 60, .inl (upd f14353 z14382.toNatClampNeg r14386))), (md 40, .inl (cyI, 520, .inl m_all))] H := hP
          have hD : va_D A [(hM, .inr (7, [.ref (md 0), .ref (md 1), .int m_taped, .int m_size, .int m_faultKind, .int m_faultPlace, .int m_at, .int m_end, .int m_token, .int m_number, .long m_name, .ref (md 11), .ref (md 12), .ref (md 13), .ref (md 14), .ref (md 15), .ref (md 16), .ref (md 17), .ref (md 18), .ref (md 19), .ref (md 20), .ref (md 21), .ref (md 22), .ref (md 23), .ref (md 24), .ref (md 25), .ref (md 26), .ref (md 27), .ref (md 28), .int m_bank, .int m_rb, .int m_codes, .int m_within, .int m_piled, .int m_unitsInRule, .int m_askFrom, .int m_askTo, .int m_askWrite, .int m_askUnder, .int m_askBack, .ref (md 40), .ref (md 41), .int m_thoughtSlow, .int m_came, .ref (md 44), .int m_acts, .int m_undone, .ref (md 47), .ref (md 48), .int m_laid, .ref (md 50), .ref (md 51), .ref (md 52), .ref (md 53), .ref (md 54), .int m_seens, .int m_time, .ref (md 57), .ref (md 58)])), (md 20, .inl (cyI, 2, .inl m_ruleFrom)), (md 21, .inl (cyI, 2, .inl m_ruleTo)), (md 24, .inl (cyI, 1120, .inl m_code)), (md 25, .inl (cyI, 1120, .inl m_codeNumber)), (md 28, .inl (cyI, 60, .inl (upd f14353 z14382.toNatClampNeg r14386))), (md 40, .inl (cyI, 520, .inl m_all))] := hD
          generalize ef14388 : upd f14353 z14382.toNatClampNeg r14386 = f14388 at hP hD
          obtain ⟨z14389, ez14389⟩ : ∃ y : Int32, y = v14355 + 1 := ⟨_, rfl⟩
          have tz14389 := ti_add (a := v14355.toInt) (b := 1) ez14389 rfl (by decide) (by omega) (by omega)
          refine lv_iinc (v := z14389) (lv' := [(2, .int z14389), (1, .int z14381), (3, .int z14365), (0, .ref hM)]) hx hb dX7_comes_124 hl (k := 2) rfl (by rw [ez14389]; rfl) (by decide) rfl (fun ls hl => ?_)
          refine lv_goto (tgt := 12) hx hb dX7_comes_127 (by decide) ?_
          have hl := lv_sub (l' := [(2, .int z14389), (1, .int z14381), (0, .ref hM)]) hl [0, 1, 3] rfl
          have hHt : hh z14389.toNatClampNeg = z14381.toInt := by
            have e9 : z14389.toNatClampNeg = v14355.toNatClampNeg + 1 := by show Int.toNat _ = Int.toNat _ + 1; omega
            rw [e9]
            omega
          apply ih14361 (f14353 := f14388) (v14354 := z14381) (v14355 := z14389) (H := H) (locs := locs) (ls := ls) <;> first | assumption | omega
      · have c14366 := i_eq (a := z14365.toInt) (b := 126) c14366 rfl (by decide)
        refine lv_aload_n hx hb dX7_comes_38 rfl (lv_at hl 3 rfl) ?_
        refine va_get (D := (dC, dI)) (ci := 7) (v := .ref (md 28)) (C := RX7) (T := TX7) (N := 59) hx hb hts hi7 hown hK hP 0 rfl rfl 28 (by decide) (hts _ (ow_m (k := 3) rfl)) (fun _ h9 => h9) rfl dX7_comes_39 ?_
        refine lv_iload_n hx hb dX7_comes_42 rfl (lv_at hl 2 rfl) ?_
        refine lv_iconst (v := 1) hx hb dX7_comes_43 (by decide) ?_
        refine lv_isub hx hb dX7_comes_44 ?_
        refine lv_topi (fun z14390 ez14390 => ?_)
        have tz14390 := ti_sub (a := v14354.toInt) (b := 1) ez14390 rfl (by decide) (by omega) (by omega)
        refine lv_aload_n hx hb dX7_comes_45 rfl (lv_at hl 3 rfl) ?_
        refine va_get (D := (dC, dI)) (ci := 7) (v := .ref (md 28)) (C := RX7) (T := TX7) (N := 59) hx hb hts hi7 hown hK hP 0 rfl rfl 28 (by decide) (hts _ (ow_m (k := 3) rfl)) (fun _ h9 => h9) rfl dX7_comes_46 ?_
        refine lv_iload_n hx hb dX7_comes_49 rfl (lv_at hl 2 rfl) ?_
        refine lv_iconst (v := 1) hx hb dX7_comes_50 (by decide) ?_
        refine lv_isub hx hb dX7_comes_51 ?_
        refine lv_topi (fun z14391 ez14391 => ?_)
        have tz14391 := ti_sub (a := v14354.toInt) (b := 1) ez14391 rfl (by decide) (by omega) (by omega)
        refine va_iald hx hb hK hP 5 1 rfl rfl (vp_i rfl (by omega) (by omega)) dX7_comes_52 ?_
        refine lv_topi (fun z14392 ez14392 => ?_)
        refine lv_if_ne (tgt := 60) hx hb dX7_comes_53 (by decide) (fun c14393 => ?_) (fun c14393 => ?_)
        · have c14393 := i_ne (a := z14392.toInt) (b := 0) c14393 rfl (by decide)
          refine lv_iconst (v := 0) hx hb dX7_comes_60 (by decide) ?_
          refine va_iast hx hb hK hP hD hS 5 1 rfl rfl (vp_i rfl (by omega) (by omega)) dX7_comes_61 (fun H locs hP hD hS => ?_)
          have hP : va_P (dC, dI) vwCl [(hM, .inr (7, [.ref (md 0), .ref (md 1), .int m_taped, .int m_size, .int m_faultKind, .int m_faultPlace, .int m_at, .int m_end, .int m_token, .int m_number, .long m_name, .ref (md 11), .ref (md 12), .ref (md 13), .ref (md 14), .ref (md 15), .ref (md 16), .ref (md 17), .ref (md 18), .ref (md 19), .ref (md 20), .ref (md 21), .ref (md 22), .ref (md 23), .ref (md 24), .ref (md 25), .ref (md 26), .ref (md 27), .ref (md 28), .int m_bank, .int m_rb, .int m_codes, .int m_within, .int m_piled, .int m_unitsInRule, .int m_askFrom, .int m_askTo, .int m_askWrite, .int m_askUnder, .int m_askBack, .ref (md 40), .ref (md 41), .int m_thoughtSlow, .int m_came, .ref (md 44), .int m_acts, .int m_undone, .ref (md 47), .ref (md 48), .int m_laid, .ref (md 50), .ref (md 51), .ref (md 52), .ref (md 53), .ref (md 54), .int m_seens, .int m_time, .ref (md 57), .ref (md 58)])), (md 20, .inl (cyI, 2, .inl m_ruleFrom)), (md 21, .inl (cyI, 2, .inl m_ruleTo)), (md 24, .inl (cyI, 1120, .inl m_code)), (md 25, .inl (cyI, 1120, .inl m_codeNumber)), (md 28, .inl (cyI, 60, .inl (upd f14353 z14390.toNatClampNeg 0))), (md 40, .inl (cyI, 520, .inl m_all))] H := hP
          have hD : va_D A [(hM, .inr (7, [.ref (md 0), .ref (md 1), .int m_taped, .int m_size, .int m_faultKind, .int m_faultPlace, .int m_at, .int m_end, .int m_token, .int m_number, .long m_name, .ref (md 11), .ref (md 12), .ref (md 13), .ref (md 14), .ref (md 15), .ref (md 16), .ref (md 17), .ref (md 18), .ref (md 19), .ref (md 20), .ref (md 21), .ref (md 22), .ref (md 23), .ref (md 24), .ref (md 25), .ref (md 26), .ref (md 27), .ref (md 28), .int m_bank, .int m_rb, .int m_codes, .int m_within, .int m_piled, .int m_unitsInRule, .int m_askFrom, .int m_askTo, .int m_askWrite, .int m_askUnder, .int m_askBack, .ref (md 40), .ref (md 41), .int m_thoughtSlow, .int m_came, .ref (md 44), .int m_acts, .int m_undone, .ref (md 47), .ref (md 48), .int m_laid, .ref (md 50), .ref (md 51), .ref (md 52), .ref (md 53), .ref (md 54), .int m_seens, .int m_time, .ref (md 57), .ref (md 58)])), (md 20, .inl (cyI, 2, .inl m_ruleFrom)), (md 21, .inl (cyI, 2, .inl m_ruleTo)), (md 24, .inl (cyI, 1120, .inl m_code)), (md 25, .inl (cyI, 1120, .inl m_codeNumber)), (md 28, .inl (cyI, 60, .inl (upd f14353 z14390.toNatClampNeg 0))), (md 40, .inl (cyI, 520, .inl m_all))] := hD
          generalize ef14394 : upd f14353 z14390.toNatClampNeg 0 = f14394 at hP hD
          refine lv_goto (tgt := 124) hx hb dX7_comes_62 (by decide) ?_
          obtain ⟨z14395, ez14395⟩ : ∃ y : Int32, y = v14355 + 1 := ⟨_, rfl⟩
          have tz14395 := ti_add (a := v14355.toInt) (b := 1) ez14395 rfl (by decide) (by omega) (by omega)
          refine lv_iinc (v := z14395) (lv' := [(2, .int z14395), (3, .int z14365), (1, .int v14354), (0, .ref hM)]) hx hb dX7_comes_124 hl (k := 1) rfl (by rw [ez14395]; rfl) (by decide) rfl (fun ls hl => ?_)
          refine lv_goto (tgt := 12) hx hb dX7_comes_127 (by decide) ?_
          have hl := lv_sub (l' := [(2, .int z14395), (1, .int v14354), (0, .ref hM)]) hl [0, 2, 3] rfl
          have hHt : hh z14395.toNatClampNeg = v14354.toInt := by
            have e9 : z14395.toNatClampNeg = v14355.toNatClampNeg + 1 := by show Int.toNat _ = Int.toNat _ + 1; omega
            rw [e9]
            omega
          apply ih14361 (f14353 := f14394) (v14354 := v14354) (v14355 := z14395) (H := H) (locs := locs) (ls := ls) <;> first | assumption | omega
        · have c14393 := i_eq (a := z14392.toInt) (b := 0) c14393 rfl (by decide)
          refine lv_iconst (v := 1) hx hb dX7_comes_56 (by decide) ?_
          refine lv_goto (tgt := 61) hx hb dX7_comes_57 (by decide) ?_
          refine va_iast hx hb hK hP hD hS 5 1 rfl rfl (vp_i rfl (by omega) (by omega)) dX7_comes_61 (fun H locs hP hD hS => ?_)
          have hP : va_P (dC, dI) vwCl [(hM, .inr (7, [.ref (md 0), .ref (md 1), .int m_taped, .int m_size, .int m_faultKind, .int m_faultPlace, .int m_at, .int m_end, .int m_token, .int m_number, .long m_name, .ref (md 11), .ref (md 12), .ref (md 13), .ref (md 14), .ref (md 15), .ref (md 16), .ref (md 17), .ref (md 18), .ref (md 19), .ref (md 20), .ref (md 21), .ref (md 22), .ref (md 23), .ref (md 24), .ref (md 25), .ref (md 26), .ref (md 27), .ref (md 28), .int m_bank, .int m_rb, .int m_codes, .int m_within, .int m_piled, .int m_unitsInRule, .int m_askFrom, .int m_askTo, .int m_askWrite, .int m_askUnder, .int m_askBack, .ref (md 40), .ref (md 41), .int m_thoughtSlow, .int m_came, .ref (md 44), .int m_acts, .int m_undone, .ref (md 47), .ref (md 48), .int m_laid, .ref (md 50), .ref (md 51), .ref (md 52), .ref (md 53), .ref (md 54), .int m_seens, .int m_time, .ref (md 57), .ref (md 58)])), (md 20, .inl (cyI, 2, .inl m_ruleFrom)), (md 21, .inl (cyI, 2, .inl m_ruleTo)), (md 24, .inl (cyI, 1120, .inl m_code)), (md 25, .inl (cyI, 1120, .inl m_codeNumber)), (md 28, .inl (cyI, 60, .inl (upd f14353 z14390.toNatClampNeg 1))), (md 40, .inl (cyI, 520, .inl m_all))] H := hP
          have hD : va_D A [(hM, .inr (7, [.ref (md 0), .ref (md 1), .int m_taped, .int m_size, .int m_faultKind, .int m_faultPlace, .int m_at, .int m_end, .int m_token, .int m_number, .long m_name, .ref (md 11), .ref (md 12), .ref (md 13), .ref (md 14), .ref (md 15), .ref (md 16), .ref (md 17), .ref (md 18), .ref (md 19), .ref (md 20), .ref (md 21), .ref (md 22), .ref (md 23), .ref (md 24), .ref (md 25), .ref (md 26), .ref (md 27), .ref (md 28), .int m_bank, .int m_rb, .int m_codes, .int m_within, .int m_piled, .int m_unitsInRule, .int m_askFrom, .int m_askTo, .int m_askWrite, .int m_askUnder, .int m_askBack, .ref (md 40), .ref (md 41), .int m_thoughtSlow, .int m_came, .ref (md 44), .int m_acts, .int m_undone, .ref (md 47), .ref (md 48), .int m_laid, .ref (md 50), .ref (md 51), .ref (md 52), .ref (md 53), .ref (md 54), .int m_seens, .int m_time, .ref (md 57), .ref (md 58)])), (md 20, .inl (cyI, 2, .inl m_ruleFrom)), (md 21, .inl (cyI, 2, .inl m_ruleTo)), (md 24, .inl (cyI, 1120, .inl m_code)), (md 25, .inl (cyI, 1120, .inl m_codeNumber)), (md 28, .inl (cyI, 60, .inl (upd f14353 z14390.toNatClampNeg 1))), (md 40, .inl (cyI, 520, .inl m_all))] := hD
          generalize ef14396 : upd f14353 z14390.toNatClampNeg 1 = f14396 at hP hD
          refine lv_goto (tgt := 124) hx hb dX7_comes_62 (by decide) ?_
          obtain ⟨z14397, ez14397⟩ : ∃ y : Int32, y = v14355 + 1 := ⟨_, rfl⟩
          have tz14397 := ti_add (a := v14355.toInt) (b := 1) ez14397 rfl (by decide) (by omega) (by omega)
          refine lv_iinc (v := z14397) (lv' := [(2, .int z14397), (3, .int z14365), (1, .int v14354), (0, .ref hM)]) hx hb dX7_comes_124 hl (k := 1) rfl (by rw [ez14397]; rfl) (by decide) rfl (fun ls hl => ?_)
          refine lv_goto (tgt := 12) hx hb dX7_comes_127 (by decide) ?_
          have hl := lv_sub (l' := [(2, .int z14397), (1, .int v14354), (0, .ref hM)]) hl [0, 2, 3] rfl
          have hHt : hh z14397.toNatClampNeg = v14354.toInt := by
            have e9 : z14397.toNatClampNeg = v14355.toNatClampNeg + 1 := by show Int.toNat _ = Int.toNat _ + 1; omega
            rw [e9]
            omega
          apply ih14361 (f14353 := f14396) (v14354 := v14354) (v14355 := z14397) (H := H) (locs := locs) (ls := ls) <;> first | assumption | omega
def wo_k_M_delayOf : List Cond := [.fieldLink RX7 341 "ReplicaChainModel" "thoughtSlow" "I", .fieldLink RX7 289 "ReplicaChainModel" "askFrom" "I", .fieldLink RX7 292 "ReplicaChainModel" "askTo" "I", .fieldLink RX7 295 "ReplicaChainModel" "askWrite" "I", .fieldLink RX7 298 "ReplicaChainModel" "askUnder" "I", .fieldLink RX7 301 "ReplicaChainModel" "askBack" "I", .fieldLink RX7 42 "ReplicaChainModel" "told" "[I", .fieldLink RX7 214 "ReplicaChainModel" "bank" "I", .methodLink RX7 223 yX7_bit, .static yX7_bit, .initialized RX7, .methodLink RX7 344 yX7_comes, .instanceMethod yX7_comes, .selects RX7 yX7_comes yX7_comes, .methodLink RX7 347 yX7_held, .static yX7_held]
def wq_k_M_delayOf : List Cond := .code yX7_delayOf cX7_delayOf 6 (some .int) :: (wo_k_M_delayOf ++ (wq_k_M_bit ++ (wq_k_M_comes ++ (wq_k_M_held ++ (wsX70 ++ [])))))
theorem gd_k_M_delayOf : Gd wq_k_M_delayOf := gd_c (gd_a (gd_o (by decide +kernel)) (gd_a gd_k_M_bit (gd_a gd_k_M_comes (gd_a gd_k_M_held (gd_a gd_u gd_0)))))
abbrev wc_k_M_delayOf (cyB cyI cyJ cyZ cyO : ClassId) (hM : Nat) (md : Nat → Nat) (m_told : Nat → Int32) (m_ruleFrom : Nat → Int32) (m_ruleTo : Nat → Int32) (m_code : Nat → Int32) (m_codeNumber : Nat → Int32) (m_pile : Nat → Int32) (m_all : Nat → Int32) (m_taped : Int32) (m_size : Int32) (m_faultKind : Int32) (m_faultPlace : Int32) (m_at : Int32) (m_end : Int32) (m_token : Int32) (m_number : Int32) (m_bank : Int32) (m_rb : Int32) (m_codes : Int32) (m_within : Int32) (m_piled : Int32) (m_unitsInRule : Int32) (m_askFrom : Int32) (m_askTo : Int32) (m_askWrite : Int32) (m_askUnder : Int32) (m_askBack : Int32) (m_thoughtSlow : Int32) (m_came : Int32) (m_acts : Int32) (m_undone : Int32) (m_laid : Int32) (m_seens : Int32) (m_time : Int32) (m_name : Int64) (x1 : Int32) (x2 : Int32) (x3 : Int32) (x4 : Int32) (x5 : Int32) : va_W := [(hM, .inr (7, [.ref (md 0), .ref (md 1), .int m_taped, .int m_size, .int m_faultKind, .int m_faultPlace, .int m_at, .int m_end, .int m_token, .int m_number, .long m_name, .ref (md 11), .ref (md 12), .ref (md 13), .ref (md 14), .ref (md 15), .ref (md 16), .ref (md 17), .ref (md 18), .ref (md 19), .ref (md 20), .ref (md 21), .ref (md 22), .ref (md 23), .ref (md 24), .ref (md 25), .ref (md 26), .ref (md 27), .ref (md 28), .int m_bank, .int m_rb, .int m_codes, .int m_within, .int m_piled, .int m_unitsInRule, .int m_askFrom, .int m_askTo, .int m_askWrite, .int m_askUnder, .int m_askBack, .ref (md 40), .ref (md 41), .int m_thoughtSlow, .int m_came, .ref (md 44), .int m_acts, .int m_undone, .ref (md 47), .ref (md 48), .int m_laid, .ref (md 50), .ref (md 51), .ref (md 52), .ref (md 53), .ref (md 54), .int m_seens, .int m_time, .ref (md 57), .ref (md 58)])), (md 18, .inl (cyI, 2, .inl m_told)), (md 20, .inl (cyI, 2, .inl m_ruleFrom)), (md 21, .inl (cyI, 2, .inl m_ruleTo)), (md 24, .inl (cyI, 1120, .inl m_code)), (md 25, .inl (cyI, 1120, .inl m_codeNumber)), (md 28, .inl (cyI, 60, .inl m_pile)), (md 40, .inl (cyI, 520, .inl m_all))]
set_option maxHeartbeats 4000000 in
set_option maxRecDepth 100000 in
theorem k_M_delayOf (l : Launch) (dC : Nat → ClassId) (dI : Nat → Nat → Nat) (cyB cyI cyJ cyZ cyO : ClassId) (hM : Nat) (md : Nat → Nat) (m_told : Nat → Int32) (m_ruleFrom : Nat → Int32) (m_ruleTo : Nat → Int32) (m_code : Nat → Int32) (m_codeNumber : Nat → Int32) (m_pile : Nat → Int32) (m_all : Nat → Int32) (m_taped : Int32) (m_size : Int32) (m_faultKind : Int32) (m_faultPlace : Int32) (m_at : Int32) (m_end : Int32) (m_token : Int32) (m_number : Int32) (m_bank : Int32) (m_rb : Int32) (m_codes : Int32) (m_within : Int32) (m_piled : Int32) (m_unitsInRule : Int32) (m_askFrom : Int32) (m_askTo : Int32) (m_askWrite : Int32) (m_askUnder : Int32) (m_askBack : Int32) (m_thoughtSlow : Int32) (m_came : Int32) (m_acts : Int32) (m_undone : Int32) (m_laid : Int32) (m_seens : Int32) (m_time : Int32) (m_name : Int64) (x1 : Int32) (x2 : Int32) (x3 : Int32) (x4 : Int32) (x5 : Int32) (sz : Nat) (l_m_taped : 0 ≤ m_taped.toInt) (u_m_taped : m_taped.toInt ≤ 1600) (l_m_size : 0 ≤ m_size.toInt) (u_m_size : m_size.toInt ≤ 1600) (l_m_bank : 0 ≤ m_bank.toInt) (u_m_bank : m_bank.toInt ≤ 1) (l_m_rb : 0 ≤ m_rb.toInt) (u_m_rb : m_rb.toInt ≤ 1) (l_m_acts : 0 ≤ m_acts.toInt) (u_m_acts : m_acts.toInt ≤ 40) (l_m_undone : 0 ≤ m_undone.toInt) (u_m_undone : m_undone.toInt ≤ 40) (l_m_laid : 0 ≤ m_laid.toInt) (u_m_laid : m_laid.toInt ≤ 6) (l_m_seens : 0 ≤ m_seens.toInt) (u_m_seens : m_seens.toInt ≤ 30) (l_m_time : 0 ≤ m_time.toInt) (u_m_time : m_time.toInt ≤ 100000) (i0_m_all : In2 m_all 0 1 (0) (6)) (i1_m_all : In2 m_all 1 7 (0) (7)) (i2_m_all : In2 m_all 7 15 (0) (40)) (i3_m_all : In2 m_all 15 23 (0) (40)) (i4_m_all : In2 m_all 105 106 (-1) (7)) (i5_m_all : In2 m_all 109 110 (0) (999)) (hCI : CI m_code m_ruleFrom m_ruleTo) : Met l yX7_delayOf wq_k_M_delayOf ({ frames := 2, cells := 0, slots := 0, locals := 45 }) (va_Pc [.ref hM, .int x1, .int x2, .int x3, .int x4, .int x5] (cB (dC, dI) (kT cyB cyI cyJ cyZ cyO) (wc_k_M_delayOf cyB cyI cyJ cyZ cyO hM md m_told m_ruleFrom m_ruleTo m_code m_codeNumber m_pile m_all m_taped m_size m_faultKind m_faultPlace m_at m_end m_token m_number m_bank m_rb m_codes m_within m_piled m_unitsInRule m_askFrom m_askTo m_askWrite m_askUnder m_askBack m_thoughtSlow m_came m_acts m_undone m_laid m_seens m_time m_name x1 x2 x3 x4 x5) sz)) (va_Qi (fun (r : Int32) (u : ST4) => True) (fun (u : ST4) t => cE (dC, dI) (va_A (wc_k_M_delayOf cyB cyI cyJ cyZ cyO hM md m_told m_ruleFrom m_ruleTo m_code m_codeNumber m_pile m_all m_taped m_size m_faultKind m_faultPlace m_at m_end m_token m_number m_bank m_rb m_codes m_within m_piled m_unitsInRule m_askFrom m_askTo m_askWrite m_askUnder m_askBack m_thoughtSlow m_came m_acts m_undone m_laid m_seens m_time m_name x1 x2 x3 x4 x5) sz) ([(hM, .inr (7, [.ref (md 0), .ref (md 1), .int m_taped, .int m_size, .int m_faultKind, .int m_faultPlace, .int m_at, .int m_end, .int m_token, .int m_number, .long m_name, .ref (md 11), .ref (md 12), .ref (md 13), .ref (md 14), .ref (md 15), .ref (md 16), .ref (md 17), .ref (md 18), .ref (md 19), .ref (md 20), .ref (md 21), .ref (md 22), .ref (md 23), .ref (md 24), .ref (md 25), .ref (md 26), .ref (md 27), .ref (md 28), .int m_bank, .int m_rb, .int m_codes, .int m_within, .int m_piled, .int m_unitsInRule, .int (u.2.1 0), .int (u.2.1 1), .int (u.2.1 2), .int (u.2.1 3), .int (u.2.1 4), .ref (md 40), .ref (md 41), .int m_thoughtSlow, .int m_came, .ref (md 44), .int m_acts, .int m_undone, .ref (md 47), .ref (md 48), .int m_laid, .ref (md 50), .ref (md 51), .ref (md 52), .ref (md 53), .ref (md 54), .int m_seens, .int m_time, .ref (md 57), .ref (md 58)])), (md 18, .inl (cyI, 2, .inl m_told)), (md 20, .inl (cyI, 2, .inl m_ruleFrom)), (md 21, .inl (cyI, 2, .inl m_ruleTo)), (md 24, .inl (cyI, 1120, .inl m_code)), (md 25, .inl (cyI, 1120, .inl m_codeNumber)), (md 28, .inl (cyI, 60, .inl (u.1 0))), (md 40, .inl (cyI, 520, .inl m_all))]) t.heap) (va_A (wc_k_M_delayOf cyB cyI cyJ cyZ cyO hM md m_told m_ruleFrom m_ruleTo m_code m_codeNumber m_pile m_all m_taped m_size m_faultKind m_faultPlace m_at m_end m_token m_number m_bank m_rb m_codes m_within m_piled m_unitsInRule m_askFrom m_askTo m_askWrite m_askUnder m_askBack m_thoughtSlow m_came m_acts m_undone m_laid m_seens m_time m_name x1 x2 x3 x4 x5) sz)) 0 0 (va_A (wc_k_M_delayOf cyB cyI cyJ cyZ cyO hM md m_told m_ruleFrom m_ruleTo m_code m_codeNumber m_pile m_all m_taped m_size m_faultKind m_faultPlace m_at m_end m_token m_number m_bank m_rb m_codes m_within m_piled m_unitsInRule m_askFrom m_askTo m_askWrite m_askUnder m_askBack m_thoughtSlow m_came m_acts m_undone m_laid m_seens m_time m_name x1 x2 x3 x4 x5) sz) := by
  refine Met.ofW (cc := cX7_delayOf) (maxL := 6) (ret := (some .int)) (by decide) rfl ?_
  intro p e s m args below meth c s₁ B hml hv
  obtain ⟨rfl, hsz, hP, hKN, hD0⟩ := hv
  have hx := B.exec
  have hb := B.bytes
  have hr := B.returns
  have hts := atoms_spec (ws := wq_k_M_delayOf) B.pre
  have hown : s.vm.findClass RX7 = some m.cls := findClass_of_methodNamed B.named
  have hlocks := B.notSynchronized
  have hK := hKN.1
  have hfix : CallFix p m c cX7_delayOf 6 s [.ref hM, .int x1, .int x2, .int x3, .int x4, .int x5].toArray wq_k_M_delayOf RX7 := ⟨hx, hb, hml, hown, hts⟩
  have hi7 : ∀ w ∈ wsX70, w ∈ wq_k_M_delayOf := (sb_c (sb_r (sb_r (sb_r sb_l))))
  subst hsz
  have hD := hD0.self (sz := s.heap.size)
  generalize hAe : va_A (wc_k_M_delayOf cyB cyI cyJ cyZ cyO hM md m_told m_ruleFrom m_ruleTo m_code m_codeNumber m_pile m_all m_taped m_size m_faultKind m_faultPlace m_at m_end m_token m_number m_bank m_rb m_codes m_within m_piled m_unitsInRule m_askFrom m_askTo m_askWrite m_askUnder m_askBack m_thoughtSlow m_came m_acts m_undone m_laid m_seens m_time m_name x1 x2 x3 x4 x5) s.heap.size = A at hD ⊢
  have hA : ∀ q : Nat, s.heap.size ≤ q → A q := fun q h => by rw [← hAe]; exact Or.inr h
  have hS : va_S A s.heap s.heap [] := va_S.rf
  have hl := lv_entry ([.ref hM, .int x1, .int x2, .int x3, .int x4, .int x5]) (n := 6) (Nat.le_of_ble_eq_true rfl)
  rw [lg_entry_eq]
  generalize (lg_sl ([.ref hM, .int x1, .int x2, .int x3, .int x4, .int x5]) ++ List.replicate (6 - (lg_sl ([.ref hM, .int x1, .int x2, .int x3, .int x4, .int x5])).length) Slot.unset).toArray = ls at hl ⊢
  have hl : lv_has ls 6 [(0, .ref hM), (1, .int x1), (2, .int x2), (3, .int x3), (4, .int x4), (5, .int x5)] := hl
  have ck0 : (0 : Int32).toInt = 0 := by decide
  have ck1 : (1 : Int32).toInt = 1 := by decide
  have ck9 : (9 : Int32).toInt = 9 := by decide
  refine lv_aload_n hx hb dX7_delayOf_0 rfl (lv_at hl 0 rfl) ?_
  refine va_get (D := (dC, dI)) (ci := 7) (v := .int m_thoughtSlow) (C := RX7) (T := TX7) (N := 59) hx hb hts hi7 hown hK hP 0 rfl rfl 42 (by decide) (hts _ (ow_m (k := 0) rfl)) (fun _ h9 => h9) rfl dX7_delayOf_1 ?_
  refine lv_if_le (tgt := 12) hx hb dX7_delayOf_4 (by decide) (fun c14422 => ?_) (fun c14422 => ?_)
  · have c14422 := i_le (a := m_thoughtSlow.toInt) (b := 0) c14422 rfl (by decide)
    refine lv_aload_n hx hb dX7_delayOf_12 rfl (lv_at hl 0 rfl) ?_
    refine lv_iload_n hx hb dX7_delayOf_13 rfl (lv_at hl 1 rfl) ?_
    refine va_put (D := (dC, dI)) (ci := 7) (v := .int x1) (ty := .int) (C := RX7) (T := TX7) (N := 59) hx hb hts hi7 tyX7 tyX7_ok nmX7 hown hK hP hD hS 0 rfl rfl 35 (by decide) (hts _ (ow_m (k := 1) rfl)) (fun _ h9 => h9) rfl (by decide +kernel) rfl rfl (Nat.le_of_ble_eq_true rfl) dX7_delayOf_14 (fun H locs hP hD hS => ?_)
    have hP : va_P (dC, dI) vwCl [(hM, .inr (7, [.ref (md 0), .ref (md 1), .int m_taped, .int m_size, .int m_faultKind, .int m_faultPlace, .int m_at, .int m_end, .int m_token, .int m_number, .long m_name, .ref (md 11), .ref (md 12), .ref (md 13), .ref (md 14), .ref (md 15), .ref (md 16), .ref (md 17), .ref (md 18), .ref (md 19), .ref (md 20), .ref (md 21), .ref (md 22), .ref (md 23), .ref (md 24), .ref (md 25), .ref (md 26), .ref (md 27), .ref (md 28), .int m_bank, .int m_rb, .int m_codes, .int m_within, .int m_piled, .int m_unitsInRule, .int x1, .int m_askTo, .int m_askWrite, .int m_askUnder, .int m_askBack, .ref (md 40), .ref (md 41), .int m_thoughtSlow, .int m_came, .ref (md 44), .int m_acts, .int m_undone, .ref (md 47), .ref (md 48), .int m_laid, .ref (md 50), .ref (md 51), .ref (md 52), .ref (md 53), .ref (md 54), .int m_seens, .int m_time, .ref (md 57), .ref (md 58)])), (md 18, .inl (cyI, 2, .inl m_told)), (md 20, .inl (cyI, 2, .inl m_ruleFrom)), (md 21, .inl (cyI, 2, .inl m_ruleTo)), (md 24, .inl (cyI, 1120, .inl m_code)), (md 25, .inl (cyI, 1120, .inl m_codeNumber)), (md 28, .inl (cyI, 60, .inl m_pile)), (md 40, .inl (cyI, 520, .inl m_all))] H := hP
    have hD : va_D A [(hM, .inr (7, [.ref (md 0), .ref (md 1), .int m_taped, .int m_size, .int m_faultKind, .int m_faultPlace, .int m_at, .int m_end, .int m_token, .int m_number, .long m_name, .ref (md 11), .ref (md 12), .ref (md 13), .ref (md 14), .ref (md 15), .ref (md 16), .ref (md 17), .ref (md 18), .ref (md 19), .ref (md 20), .ref (md 21), .ref (md 22), .ref (md 23), .ref (md 24), .ref (md 25), .ref (md 26), .ref (md 27), .ref (md 28), .int m_bank, .int m_rb, .int m_codes, .int m_within, .int m_piled, .int m_unitsInRule, .int x1, .int m_askTo, .int m_askWrite, .int m_askUnder, .int m_askBack, .ref (md 40), .ref (md 41), .int m_thoughtSlow, .int m_came, .ref (md 44), .int m_acts, .int m_undone, .ref (md 47), .ref (md 48), .int m_laid, .ref (md 50), .ref (md 51), .ref (md 52), .ref (md 53), .ref (md 54), .int m_seens, .int m_time, .ref (md 57), .ref (md 58)])), (md 18, .inl (cyI, 2, .inl m_told)), (md 20, .inl (cyI, 2, .inl m_ruleFrom)), (md 21, .inl (cyI, 2, .inl m_ruleTo)), (md 24, .inl (cyI, 1120, .inl m_code)), (md 25, .inl (cyI, 1120, .inl m_codeNumber)), (md 28, .inl (cyI, 60, .inl m_pile)), (md 40, .inl (cyI, 520, .inl m_all))] := hD
    refine lv_aload_n hx hb dX7_delayOf_17 rfl (lv_at hl 0 rfl) ?_
    refine lv_iload_n hx hb dX7_delayOf_18 rfl (lv_at hl 2 rfl) ?_
    refine va_put (D := (dC, dI)) (ci := 7) (v := .int x2) (ty := .int) (C := RX7) (T := TX7) (N := 59) hx hb hts hi7 tyX7 tyX7_ok nmX7 hown hK hP hD hS 0 rfl rfl 36 (by decide) (hts _ (ow_m (k := 2) rfl)) (fun _ h9 => h9) rfl (by decide +kernel) rfl rfl (Nat.le_of_ble_eq_true rfl) dX7_delayOf_19 (fun H locs hP hD hS => ?_)
    have hP : va_P (dC, dI) vwCl [(hM, .inr (7, [.ref (md 0), .ref (md 1), .int m_taped, .int m_size, .int m_faultKind, .int m_faultPlace, .int m_at, .int m_end, .int m_token, .int m_number, .long m_name, .ref (md 11), .ref (md 12), .ref (md 13), .ref (md 14), .ref (md 15), .ref (md 16), .ref (md 17), .ref (md 18), .ref (md 19), .ref (md 20), .ref (md 21), .ref (md 22), .ref (md 23), .ref (md 24), .ref (md 25), .ref (md 26), .ref (md 27), .ref (md 28), .int m_bank, .int m_rb, .int m_codes, .int m_within, .int m_piled, .int m_unitsInRule, .int x1, .int x2, .int m_askWrite, .int m_askUnder, .int m_askBack, .ref (md 40), .ref (md 41), .int m_thoughtSlow, .int m_came, .ref (md 44), .int m_acts, .int m_undone, .ref (md 47), .ref (md 48), .int m_laid, .ref (md 50), .ref (md 51), .ref (md 52), .ref (md 53), .ref (md 54), .int m_seens, .int m_time, .ref (md 57), .ref (md 58)])), (md 18, .inl (cyI, 2, .inl m_told)), (md 20, .inl (cyI, 2, .inl m_ruleFrom)), (md 21, .inl (cyI, 2, .inl m_ruleTo)), (md 24, .inl (cyI, 1120, .inl m_code)), (md 25, .inl (cyI, 1120, .inl m_codeNumber)), (md 28, .inl (cyI, 60, .inl m_pile)), (md 40, .inl (cyI, 520, .inl m_all))] H := hP
    have hD : va_D A [(hM, .inr (7, [.ref (md 0), .ref (md 1), .int m_taped, .int m_size, .int m_faultKind, .int m_faultPlace, .int m_at, .int m_end, .int m_token, .int m_number, .long m_name, .ref (md 11), .ref (md 12), .ref (md 13), .ref (md 14), .ref (md 15), .ref (md 16), .ref (md 17), .ref (md 18), .ref (md 19), .ref (md 20), .ref (md 21), .ref (md 22), .ref (md 23), .ref (md 24), .ref (md 25), .ref (md 26), .ref (md 27), .ref (md 28), .int m_bank, .int m_rb, .int m_codes, .int m_within, .int m_piled, .int m_unitsInRule, .int x1, .int x2, .int m_askWrite, .int m_askUnder, .int m_askBack, .ref (md 40), .ref (md 41), .int m_thoughtSlow, .int m_came, .ref (md 44), .int m_acts, .int m_undone, .ref (md 47), .ref (md 48), .int m_laid, .ref (md 50), .ref (md 51), .ref (md 52), .ref (md 53), .ref (md 54), .int m_seens, .int m_time, .ref (md 57), .ref (md 58)])), (md 18, .inl (cyI, 2, .inl m_told)), (md 20, .inl (cyI, 2, .inl m_ruleFrom)), (md 21, .inl (cyI, 2, .inl m_ruleTo)), (md 24, .inl (cyI, 1120, .inl m_code)), (md 25, .inl (cyI, 1120, .inl m_codeNumber)), (md 28, .inl (cyI, 60, .inl m_pile)), (md 40, .inl (cyI, 520, .inl m_all))] := hD
    refine lv_aload_n hx hb dX7_delayOf_22 rfl (lv_at hl 0 rfl) ?_
    refine lv_iload_n hx hb dX7_delayOf_23 rfl (lv_at hl 3 rfl) ?_
    refine va_put (D := (dC, dI)) (ci := 7) (v := .int x3) (ty := .int) (C := RX7) (T := TX7) (N := 59) hx hb hts hi7 tyX7 tyX7_ok nmX7 hown hK hP hD hS 0 rfl rfl 37 (by decide) (hts _ (ow_m (k := 3) rfl)) (fun _ h9 => h9) rfl (by decide +kernel) rfl rfl (Nat.le_of_ble_eq_true rfl) dX7_delayOf_24 (fun H locs hP hD hS => ?_)
    have hP : va_P (dC, dI) vwCl [(hM, .inr (7, [.ref (md 0), .ref (md 1), .int m_taped, .int m_size, .int m_faultKind, .int m_faultPlace, .int m_at, .int m_end, .int m_token, .int m_number, .long m_name, .ref (md 11), .ref (md 12), .ref (md 13), .ref (md 14), .ref (md 15), .ref (md 16), .ref (md 17), .ref (md 18), .ref (md 19), .ref (md 20), .ref (md 21), .ref (md 22), .ref (md 23), .ref (md 24), .ref (md 25), .ref (md 26), .ref (md 27), .ref (md 28), .int m_bank, .int m_rb, .int m_codes, .int m_within, .int m_piled, .int m_unitsInRule, .int x1, .int x2, .int x3, .int m_askUnder, .int m_askBack, .ref (md 40), .ref (md 41), .int m_thoughtSlow, .int m_came, .ref (md 44), .int m_acts, .int m_undone, .ref (md 47), .ref (md 48), .int m_laid, .ref (md 50), .ref (md 51), .ref (md 52), .ref (md 53), .ref (md 54), .int m_seens, .int m_time, .ref (md 57), .ref (md 58)])), (md 18, .inl (cyI, 2, .inl m_told)), (md 20, .inl (cyI, 2, .inl m_ruleFrom)), (md 21, .inl (cyI, 2, .inl m_ruleTo)), (md 24, .inl (cyI, 1120, .inl m_code)), (md 25, .inl (cyI, 1120, .inl m_codeNumber)), (md 28, .inl (cyI, 60, .inl m_pile)), (md 40, .inl (cyI, 520, .inl m_all))] H := hP
    have hD : va_D A [(hM, .inr (7, [.ref (md 0), .ref (md 1), .int m_taped, .int m_size, .int m_faultKind, .int m_faultPlace, .int m_at, .int m_end, .int m_token, .int m_number, .long m_name, .ref (md 11), .ref (md 12), .ref (md 13), .ref (md 14), .ref (md 15), .ref (md 16), .ref (md 17), .ref (md 18), .ref (md 19), .ref (md 20), .ref (md 21), .ref (md 22), .ref (md 23), .ref (md 24), .ref (md 25), .ref (md 26), .ref (md 27), .ref (md 28), .int m_bank, .int m_rb, .int m_codes, .int m_within, .int m_piled, .int m_unitsInRule, .int x1, .int x2, .int x3, .int m_askUnder, .int m_askBack, .ref (md 40), .ref (md 41), .int m_thoughtSlow, .int m_came, .ref (md 44), .int m_acts, .int m_undone, .ref (md 47), .ref (md 48), .int m_laid, .ref (md 50), .ref (md 51), .ref (md 52), .ref (md 53), .ref (md 54), .int m_seens, .int m_time, .ref (md 57), .ref (md 58)])), (md 18, .inl (cyI, 2, .inl m_told)), (md 20, .inl (cyI, 2, .inl m_ruleFrom)), (md 21, .inl (cyI, 2, .inl m_ruleTo)), (md 24, .inl (cyI, 1120, .inl m_code)), (md 25, .inl (cyI, 1120, .inl m_codeNumber)), (md 28, .inl (cyI, 60, .inl m_pile)), (md 40, .inl (cyI, 520, .inl m_all))] := hD
    refine lv_aload_n hx hb dX7_delayOf_27 rfl (lv_at hl 0 rfl) ?_
    refine lv_iload hx hb dX7_delayOf_28 (lv_at hl 4 rfl) ?_
    refine va_put (D := (dC, dI)) (ci := 7) (v := .int x4) (ty := .int) (C := RX7) (T := TX7) (N := 59) hx hb hts hi7 tyX7 tyX7_ok nmX7 hown hK hP hD hS 0 rfl rfl 38 (by decide) (hts _ (ow_m (k := 4) rfl)) (fun _ h9 => h9) rfl (by decide +kernel) rfl rfl (Nat.le_of_ble_eq_true rfl) dX7_delayOf_30 (fun H locs hP hD hS => ?_)
    have hP : va_P (dC, dI) vwCl [(hM, .inr (7, [.ref (md 0), .ref (md 1), .int m_taped, .int m_size, .int m_faultKind, .int m_faultPlace, .int m_at, .int m_end, .int m_token, .int m_number, .long m_name, .ref (md 11), .ref (md 12), .ref (md 13), .ref (md 14), .ref (md 15), .ref (md 16), .ref (md 17), .ref (md 18), .ref (md 19), .ref (md 20), .ref (md 21), .ref (md 22), .ref (md 23), .ref (md 24), .ref (md 25), .ref (md 26), .ref (md 27), .ref (md 28), .int m_bank, .int m_rb, .int m_codes, .int m_within, .int m_piled, .int m_unitsInRule, .int x1, .int x2, .int x3, .int x4, .int m_askBack, .ref (md 40), .ref (md 41), .int m_thoughtSlow, .int m_came, .ref (md 44), .int m_acts, .int m_undone, .ref (md 47), .ref (md 48), .int m_laid, .ref (md 50), .ref (md 51), .ref (md 52), .ref (md 53), .ref (md 54), .int m_seens, .int m_time, .ref (md 57), .ref (md 58)])), (md 18, .inl (cyI, 2, .inl m_told)), (md 20, .inl (cyI, 2, .inl m_ruleFrom)), (md 21, .inl (cyI, 2, .inl m_ruleTo)), (md 24, .inl (cyI, 1120, .inl m_code)), (md 25, .inl (cyI, 1120, .inl m_codeNumber)), (md 28, .inl (cyI, 60, .inl m_pile)), (md 40, .inl (cyI, 520, .inl m_all))] H := hP
    have hD : va_D A [(hM, .inr (7, [.ref (md 0), .ref (md 1), .int m_taped, .int m_size, .int m_faultKind, .int m_faultPlace, .int m_at, .int m_end, .int m_token, .int m_number, .long m_name, .ref (md 11), .ref (md 12), .ref (md 13), .ref (md 14), .ref (md 15), .ref (md 16), .ref (md 17), .ref (md 18), .ref (md 19), .ref (md 20), .ref (md 21), .ref (md 22), .ref (md 23), .ref (md 24), .ref (md 25), .ref (md 26), .ref (md 27), .ref (md 28), .int m_bank, .int m_rb, .int m_codes, .int m_within, .int m_piled, .int m_unitsInRule, .int x1, .int x2, .int x3, .int x4, .int m_askBack, .ref (md 40), .ref (md 41), .int m_thoughtSlow, .int m_came, .ref (md 44), .int m_acts, .int m_undone, .ref (md 47), .ref (md 48), .int m_laid, .ref (md 50), .ref (md 51), .ref (md 52), .ref (md 53), .ref (md 54), .int m_seens, .int m_time, .ref (md 57), .ref (md 58)])), (md 18, .inl (cyI, 2, .inl m_told)), (md 20, .inl (cyI, 2, .inl m_ruleFrom)), (md 21, .inl (cyI, 2, .inl m_ruleTo)), (md 24, .inl (cyI, 1120, .inl m_code)), (md 25, .inl (cyI, 1120, .inl m_codeNumber)), (md 28, .inl (cyI, 60, .inl m_pile)), (md 40, .inl (cyI, 520, .inl m_all))] := hD
    refine lv_aload_n hx hb dX7_delayOf_33 rfl (lv_at hl 0 rfl) ?_
    refine lv_iload hx hb dX7_delayOf_34 (lv_at hl 5 rfl) ?_
    refine va_put (D := (dC, dI)) (ci := 7) (v := .int x5) (ty := .int) (C := RX7) (T := TX7) (N := 59) hx hb hts hi7 tyX7 tyX7_ok nmX7 hown hK hP hD hS 0 rfl rfl 39 (by decide) (hts _ (ow_m (k := 5) rfl)) (fun _ h9 => h9) rfl (by decide +kernel) rfl rfl (Nat.le_of_ble_eq_true rfl) dX7_delayOf_36 (fun H locs hP hD hS => ?_)
    have hP : va_P (dC, dI) vwCl [(hM, .inr (7, [.ref (md 0), .ref (md 1), .int m_taped, .int m_size, .int m_faultKind, .int m_faultPlace, .int m_at, .int m_end, .int m_token, .int m_number, .long m_name, .ref (md 11), .ref (md 12), .ref (md 13), .ref (md 14), .ref (md 15), .ref (md 16), .ref (md 17), .ref (md 18), .ref (md 19), .ref (md 20), .ref (md 21), .ref (md 22), .ref (md 23), .ref (md 24), .ref (md 25), .ref (md 26), .ref (md 27), .ref (md 28), .int m_bank, .int m_rb, .int m_codes, .int m_within, .int m_piled, .int m_unitsInRule, .int x1, .int x2, .int x3, .int x4, .int x5, .ref (md 40), .ref (md 41), .int m_thoughtSlow, .int m_came, .ref (md 44), .int m_acts, .int m_undone, .ref (md 47), .ref (md 48), .int m_laid, .ref (md 50), .ref (md 51), .ref (md 52), .ref (md 53), .ref (md 54), .int m_seens, .int m_time, .ref (md 57), .ref (md 58)])), (md 18, .inl (cyI, 2, .inl m_told)), (md 20, .inl (cyI, 2, .inl m_ruleFrom)), (md 21, .inl (cyI, 2, .inl m_ruleTo)), (md 24, .inl (cyI, 1120, .inl m_code)), (md 25, .inl (cyI, 1120, .inl m_codeNumber)), (md 28, .inl (cyI, 60, .inl m_pile)), (md 40, .inl (cyI, 520, .inl m_all))] H := hP
    have hD : va_D A [(hM, .inr (7, [.ref (md 0), .ref (md 1), .int m_taped, .int m_size, .int m_faultKind, .int m_faultPlace, .int m_at, .int m_end, .int m_token, .int m_number, .long m_name, .ref (md 11), .ref (md 12), .ref (md 13), .ref (md 14), .ref (md 15), .ref (md 16), .ref (md 17), .ref (md 18), .ref (md 19), .ref (md 20), .ref (md 21), .ref (md 22), .ref (md 23), .ref (md 24), .ref (md 25), .ref (md 26), .ref (md 27), .ref (md 28), .int m_bank, .int m_rb, .int m_codes, .int m_within, .int m_piled, .int m_unitsInRule, .int x1, .int x2, .int x3, .int x4, .int x5, .ref (md 40), .ref (md 41), .int m_thoughtSlow, .int m_came, .ref (md 44), .int m_acts, .int m_undone, .ref (md 47), .ref (md 48), .int m_laid, .ref (md 50), .ref (md 51), .ref (md 52), .ref (md 53), .ref (md 54), .int m_seens, .int m_time, .ref (md 57), .ref (md 58)])), (md 18, .inl (cyI, 2, .inl m_told)), (md 20, .inl (cyI, 2, .inl m_ruleFrom)), (md 21, .inl (cyI, 2, .inl m_ruleTo)), (md 24, .inl (cyI, 1120, .inl m_code)), (md 25, .inl (cyI, 1120, .inl m_codeNumber)), (md 28, .inl (cyI, 60, .inl m_pile)), (md 40, .inl (cyI, 520, .inl m_all))] := hD
    refine lv_aload_n hx hb dX7_delayOf_39 rfl (lv_at hl 0 rfl) ?_
    refine va_get (D := (dC, dI)) (ci := 7) (v := .ref (md 18)) (C := RX7) (T := TX7) (N := 59) hx hb hts hi7 hown hK hP 0 rfl rfl 18 (by decide) (hts _ (ow_m (k := 6) rfl)) (fun _ h9 => h9) rfl dX7_delayOf_40 ?_
    refine lv_aload_n hx hb dX7_delayOf_43 rfl (lv_at hl 0 rfl) ?_
    refine va_get (D := (dC, dI)) (ci := 7) (v := .int m_bank) (C := RX7) (T := TX7) (N := 59) hx hb hts hi7 hown hK hP 0 rfl rfl 29 (by decide) (hts _ (ow_m (k := 7) rfl)) (fun _ h9 => h9) rfl dX7_delayOf_44 ?_
    refine va_iald hx hb hK hP 1 1 rfl rfl (vp_i rfl (by omega) (by omega)) dX7_delayOf_47 ?_
    refine lv_topi (fun z14423 ez14423 => ?_)
    refine lv_iconst (v := 0) hx hb dX7_delayOf_48 (by decide) ?_
    refine gf_i (wr := [(hM, .inr (7, [.ref (md 0), .ref (md 1), .int m_taped, .int m_size, .int m_faultKind, .int m_faultPlace, .int m_at, .int m_end, .int m_token, .int m_number, .long m_name, .ref (md 11), .ref (md 12), .ref (md 13), .ref (md 14), .ref (md 15), .ref (md 16), .ref (md 17), .ref (md 18), .ref (md 19), .ref (md 20), .ref (md 21), .ref (md 22), .ref (md 23), .ref (md 24), .ref (md 25), .ref (md 26), .ref (md 27), .ref (md 28), .int m_bank, .int m_rb, .int m_codes, .int m_within, .int m_piled, .int m_unitsInRule, .int x1, .int x2, .int x3, .int x4, .int x5, .ref (md 40), .ref (md 41), .int m_thoughtSlow, .int m_came, .ref (md 44), .int m_acts, .int m_undone, .ref (md 47), .ref (md 48), .int m_laid, .ref (md 50), .ref (md 51), .ref (md 52), .ref (md 53), .ref (md 54), .int m_seens, .int m_time, .ref (md 57), .ref (md 58)])), (md 18, .inl (cyI, 2, .inl m_told)), (md 20, .inl (cyI, 2, .inl m_ruleFrom)), (md 21, .inl (cyI, 2, .inl m_ruleTo)), (md 24, .inl (cyI, 1120, .inl m_code)), (md 25, .inl (cyI, 1120, .inl m_codeNumber)), (md 28, .inl (cyI, 60, .inl m_pile)), (md 40, .inl (cyI, 520, .inl m_all))]) (va_runS (As := [.int z14423, .int 0]) (rest := []) hfix (k_M_bit l dC dI cyB cyI cyJ cyZ cyO z14423 (0 : Int32) _) (va_cwS 2 hts (gi_S (ow_m (k := 8) rfl) (ow_m (k := 9) rfl) (ow_m (k := 10) rfl) (sb_c sb_l) gd_k_M_bit) rfl rfl rfl (by decide +kernel) ⟨Nat.le_of_ble_eq_true rfl, Nat.le_of_ble_eq_true rfl⟩) (g_preS hKN hP hD [] rfl (by decide)) rfl rfl hl.1 rfl (lv_room (Nat.le_of_ble_eq_true rfl)) dX7_delayOf_49 ⟨Nat.le_of_ble_eq_true rfl, Nat.le_of_ble_eq_true rfl⟩) hP hD hS hA [] [0, 1, 2, 3, 4, 5, 6, 7] rfl rfl (by decide) (by decide) (fun r14424 u14425 H locs qu14425 hP hD hS => ?_)
    obtain ⟨b14426, b14427⟩ := qu14425
    have hP : va_P (dC, dI) vwCl [(hM, .inr (7, [.ref (md 0), .ref (md 1), .int m_taped, .int m_size, .int m_faultKind, .int m_faultPlace, .int m_at, .int m_end, .int m_token, .int m_number, .long m_name, .ref (md 11), .ref (md 12), .ref (md 13), .ref (md 14), .ref (md 15), .ref (md 16), .ref (md 17), .ref (md 18), .ref (md 19), .ref (md 20), .ref (md 21), .ref (md 22), .ref (md 23), .ref (md 24), .ref (md 25), .ref (md 26), .ref (md 27), .ref (md 28), .int m_bank, .int m_rb, .int m_codes, .int m_within, .int m_piled, .int m_unitsInRule, .int x1, .int x2, .int x3, .int x4, .int x5, .ref (md 40), .ref (md 41), .int m_thoughtSlow, .int m_came, .ref (md 44), .int m_acts, .int m_undone, .ref (md 47), .ref (md 48), .int m_laid, .ref (md 50), .ref (md 51), .ref (md 52), .ref (md 53), .ref (md 54), .int m_seens, .int m_time, .ref (md 57), .ref (md 58)])), (md 18, .inl (cyI, 2, .inl m_told)), (md 20, .inl (cyI, 2, .inl m_ruleFrom)), (md 21, .inl (cyI, 2, .inl m_ruleTo)), (md 24, .inl (cyI, 1120, .inl m_code)), (md 25, .inl (cyI, 1120, .inl m_codeNumber)), (md 28, .inl (cyI, 60, .inl m_pile)), (md 40, .inl (cyI, 520, .inl m_all))] H := hP
    have hD : va_D A [(hM, .inr (7, [.ref (md 0), .ref (md 1), .int m_taped, .int m_size, .int m_faultKind, .int m_faultPlace, .int m_at, .int m_end, .int m_token, .int m_number, .long m_name, .ref (md 11), .ref (md 12), .ref (md 13), .ref (md 14), .ref (md 15), .ref (md 16), .ref (md 17), .ref (md 18), .ref (md 19), .ref (md 20), .ref (md 21), .ref (md 22), .ref (md 23), .ref (md 24), .ref (md 25), .ref (md 26), .ref (md 27), .ref (md 28), .int m_bank, .int m_rb, .int m_codes, .int m_within, .int m_piled, .int m_unitsInRule, .int x1, .int x2, .int x3, .int x4, .int x5, .ref (md 40), .ref (md 41), .int m_thoughtSlow, .int m_came, .ref (md 44), .int m_acts, .int m_undone, .ref (md 47), .ref (md 48), .int m_laid, .ref (md 50), .ref (md 51), .ref (md 52), .ref (md 53), .ref (md 54), .int m_seens, .int m_time, .ref (md 57), .ref (md 58)])), (md 18, .inl (cyI, 2, .inl m_told)), (md 20, .inl (cyI, 2, .inl m_ruleFrom)), (md 21, .inl (cyI, 2, .inl m_ruleTo)), (md 24, .inl (cyI, 1120, .inl m_code)), (md 25, .inl (cyI, 1120, .inl m_codeNumber)), (md 28, .inl (cyI, 60, .inl m_pile)), (md 40, .inl (cyI, 520, .inl m_all))] := hD
    refine lv_if_eq (tgt := 68) hx hb dX7_delayOf_52 (by decide) (fun c14428 => ?_) (fun c14428 => ?_)
    · have c14428 := i_eq (a := r14424.toInt) (b := 0) c14428 rfl (by decide)
      refine lv_iconst (v := 1) hx hb dX7_delayOf_68 (by decide) ?_
      exact W.iret (v := 1) hx hb hr (fun t ht hW => ⟨⟨1, ((fun _ => m_pile), (fun k => match k with | 0 => x1 | 1 => x2 | 2 => x3 | 3 => x4 | _ => x5), (fun _ => 0), (fun _ => fun _ => 0)), rfl, trivial, cE.of ht hP hD [0, 1, 2, 3, 4, 5, 6, 7] (by decide) rfl⟩, hS.F ht⟩) hS.2.2 dX7_delayOf_69
    · have c14428 := i_ne (a := r14424.toInt) (b := 0) c14428 rfl (by decide)
      refine lv_aload_n hx hb dX7_delayOf_55 rfl (lv_at hl 0 rfl) ?_
      refine gf_i (wr := [(md 18, .inl (cyI, 2, .inl m_told))]) (va_runV (As := []) (rest := []) hfix (k_M_comes l dC dI cyB cyI cyJ cyZ cyO hM md m_ruleFrom m_ruleTo m_code m_codeNumber m_pile m_all m_taped m_size m_faultKind m_faultPlace m_at m_end m_token m_number m_bank m_rb m_codes m_within m_piled m_unitsInRule x1 x2 x3 x4 x5 m_thoughtSlow m_came m_acts m_undone m_laid m_seens m_time m_name _ (by first | omega | assumption) (by first | omega | assumption) (by first | omega | assumption) (by first | omega | assumption) (by first | omega | assumption) (by first | omega | assumption) (by first | omega | assumption) (by first | omega | assumption) (by first | omega | assumption) (by first | omega | assumption) (by first | omega | assumption) (by first | omega | assumption) (by first | omega | assumption) (by first | omega | assumption) (by first | omega | assumption) (by first | omega | assumption) (by first | omega | assumption) (by first | omega | assumption) i0_m_all i1_m_all i2_m_all i3_m_all i4_m_all i5_m_all (by first | omega | assumption)) (cwV 0 hts (gi_V (ow_m (k := 11) rfl) (ow_m (k := 12) rfl) (ow_m (k := 13) rfl) (ow_m (k := 10) rfl) (sb_c (sb_r sb_l)) gd_k_M_comes) rfl rfl rfl (by decide +kernel) ⟨Nat.le_of_ble_eq_true rfl, Nat.le_of_ble_eq_true rfl⟩) (g_preV hKN hP hD [0, 2, 3, 4, 5, 6, 7] rfl (by decide) 0 7 rfl rfl) rfl rfl hl.1 rfl (lv_room (Nat.le_of_ble_eq_true rfl)) dX7_delayOf_56 ⟨Nat.le_of_ble_eq_true rfl, Nat.le_of_ble_eq_true rfl⟩) hP hD hS hA [0, 2, 3, 4, 5, 6, 7] [1] rfl rfl (by decide) (by decide) (fun r14429 u14430 H locs qu14430 hP hD hS => ?_)
      have hP : va_P (dC, dI) vwCl [(md 18, .inl (cyI, 2, .inl m_told)), (hM, .inr (7, [.ref (md 0), .ref (md 1), .int m_taped, .int m_size, .int m_faultKind, .int m_faultPlace, .int m_at, .int m_end, .int m_token, .int m_number, .long m_name, .ref (md 11), .ref (md 12), .ref (md 13), .ref (md 14), .ref (md 15), .ref (md 16), .ref (md 17), .ref (md 18), .ref (md 19), .ref (md 20), .ref (md 21), .ref (md 22), .ref (md 23), .ref (md 24), .ref (md 25), .ref (md 26), .ref (md 27), .ref (md 28), .int m_bank, .int m_rb, .int m_codes, .int m_within, .int m_piled, .int m_unitsInRule, .int x1, .int x2, .int x3, .int x4, .int x5, .ref (md 40), .ref (md 41), .int m_thoughtSlow, .int m_came, .ref (md 44), .int m_acts, .int m_undone, .ref (md 47), .ref (md 48), .int m_laid, .ref (md 50), .ref (md 51), .ref (md 52), .ref (md 53), .ref (md 54), .int m_seens, .int m_time, .ref (md 57), .ref (md 58)])), (md 20, .inl (cyI, 2, .inl m_ruleFrom)), (md 21, .inl (cyI, 2, .inl m_ruleTo)), (md 24, .inl (cyI, 1120, .inl m_code)), (md 25, .inl (cyI, 1120, .inl m_codeNumber)), (md 28, .inl (cyI, 60, .inl (u14430.1 0))), (md 40, .inl (cyI, 520, .inl m_all))] H := hP
      have hD : va_D A [(md 18, .inl (cyI, 2, .inl m_told)), (hM, .inr (7, [.ref (md 0), .ref (md 1), .int m_taped, .int m_size, .int m_faultKind, .int m_faultPlace, .int m_at, .int m_end, .int m_token, .int m_number, .long m_name, .ref (md 11), .ref (md 12), .ref (md 13), .ref (md 14), .ref (md 15), .ref (md 16), .ref (md 17), .ref (md 18), .ref (md 19), .ref (md 20), .ref (md 21), .ref (md 22), .ref (md 23), .ref (md 24), .ref (md 25), .ref (md 26), .ref (md 27), .ref (md 28), .int m_bank, .int m_rb, .int m_codes, .int m_within, .int m_piled, .int m_unitsInRule, .int x1, .int x2, .int x3, .int x4, .int x5, .ref (md 40), .ref (md 41), .int m_thoughtSlow, .int m_came, .ref (md 44), .int m_acts, .int m_undone, .ref (md 47), .ref (md 48), .int m_laid, .ref (md 50), .ref (md 51), .ref (md 52), .ref (md 53), .ref (md 54), .int m_seens, .int m_time, .ref (md 57), .ref (md 58)])), (md 20, .inl (cyI, 2, .inl m_ruleFrom)), (md 21, .inl (cyI, 2, .inl m_ruleTo)), (md 24, .inl (cyI, 1120, .inl m_code)), (md 25, .inl (cyI, 1120, .inl m_codeNumber)), (md 28, .inl (cyI, 60, .inl (u14430.1 0))), (md 40, .inl (cyI, 520, .inl m_all))] := hD
      refine lv_iconst (v := 1) hx hb dX7_delayOf_59 (by decide) ?_
      refine lv_bipush (v := 9) hx hb dX7_delayOf_60 (by decide) ?_
      refine gf_i (wr := [(md 18, .inl (cyI, 2, .inl m_told)), (hM, .inr (7, [.ref (md 0), .ref (md 1), .int m_taped, .int m_size, .int m_faultKind, .int m_faultPlace, .int m_at, .int m_end, .int m_token, .int m_number, .long m_name, .ref (md 11), .ref (md 12), .ref (md 13), .ref (md 14), .ref (md 15), .ref (md 16), .ref (md 17), .ref (md 18), .ref (md 19), .ref (md 20), .ref (md 21), .ref (md 22), .ref (md 23), .ref (md 24), .ref (md 25), .ref (md 26), .ref (md 27), .ref (md 28), .int m_bank, .int m_rb, .int m_codes, .int m_within, .int m_piled, .int m_unitsInRule, .int x1, .int x2, .int x3, .int x4, .int x5, .ref (md 40), .ref (md 41), .int m_thoughtSlow, .int m_came, .ref (md 44), .int m_acts, .int m_undone, .ref (md 47), .ref (md 48), .int m_laid, .ref (md 50), .ref (md 51), .ref (md 52), .ref (md 53), .ref (md 54), .int m_seens, .int m_time, .ref (md 57), .ref (md 58)])), (md 20, .inl (cyI, 2, .inl m_ruleFrom)), (md 21, .inl (cyI, 2, .inl m_ruleTo)), (md 24, .inl (cyI, 1120, .inl m_code)), (md 25, .inl (cyI, 1120, .inl m_codeNumber)), (md 28, .inl (cyI, 60, .inl (u14430.1 0))), (md 40, .inl (cyI, 520, .inl m_all))]) (va_runS (As := [.int r14429, .int 1, .int 9]) (rest := []) hfix (k_M_held l dC dI cyB cyI cyJ cyZ cyO r14429 (1 : Int32) (9 : Int32) _) (va_cwS 3 hts (gi_S (ow_m (k := 14) rfl) (ow_m (k := 15) rfl) (ow_m (k := 10) rfl) (sb_c (sb_r (sb_r sb_l))) gd_k_M_held) rfl rfl rfl (by decide +kernel) ⟨Nat.le_of_ble_eq_true rfl, Nat.le_of_ble_eq_true rfl⟩) (g_preS hKN hP hD [] rfl (by decide)) rfl rfl hl.1 rfl (lv_room (Nat.le_of_ble_eq_true rfl)) dX7_delayOf_62 ⟨Nat.le_of_ble_eq_true rfl, Nat.le_of_ble_eq_true rfl⟩) hP hD hS hA [] [0, 1, 2, 3, 4, 5, 6, 7] rfl rfl (by decide) (by decide) (fun r14431 u14432 H locs qu14432 hP hD hS => ?_)
      have b14433 := qu14432
      have hP : va_P (dC, dI) vwCl [(md 18, .inl (cyI, 2, .inl m_told)), (hM, .inr (7, [.ref (md 0), .ref (md 1), .int m_taped, .int m_size, .int m_faultKind, .int m_faultPlace, .int m_at, .int m_end, .int m_token, .int m_number, .long m_name, .ref (md 11), .ref (md 12), .ref (md 13), .ref (md 14), .ref (md 15), .ref (md 16), .ref (md 17), .ref (md 18), .ref (md 19), .ref (md 20), .ref (md 21), .ref (md 22), .ref (md 23), .ref (md 24), .ref (md 25), .ref (md 26), .ref (md 27), .ref (md 28), .int m_bank, .int m_rb, .int m_codes, .int m_within, .int m_piled, .int m_unitsInRule, .int x1, .int x2, .int x3, .int x4, .int x5, .ref (md 40), .ref (md 41), .int m_thoughtSlow, .int m_came, .ref (md 44), .int m_acts, .int m_undone, .ref (md 47), .ref (md 48), .int m_laid, .ref (md 50), .ref (md 51), .ref (md 52), .ref (md 53), .ref (md 54), .int m_seens, .int m_time, .ref (md 57), .ref (md 58)])), (md 20, .inl (cyI, 2, .inl m_ruleFrom)), (md 21, .inl (cyI, 2, .inl m_ruleTo)), (md 24, .inl (cyI, 1120, .inl m_code)), (md 25, .inl (cyI, 1120, .inl m_codeNumber)), (md 28, .inl (cyI, 60, .inl (u14430.1 0))), (md 40, .inl (cyI, 520, .inl m_all))] H := hP
      have hD : va_D A [(md 18, .inl (cyI, 2, .inl m_told)), (hM, .inr (7, [.ref (md 0), .ref (md 1), .int m_taped, .int m_size, .int m_faultKind, .int m_faultPlace, .int m_at, .int m_end, .int m_token, .int m_number, .long m_name, .ref (md 11), .ref (md 12), .ref (md 13), .ref (md 14), .ref (md 15), .ref (md 16), .ref (md 17), .ref (md 18), .ref (md 19), .ref (md 20), .ref (md 21), .ref (md 22), .ref (md 23), .ref (md 24), .ref (md 25), .ref (md 26), .ref (md 27), .ref (md 28), .int m_bank, .int m_rb, .int m_codes, .int m_within, .int m_piled, .int m_unitsInRule, .int x1, .int x2, .int x3, .int x4, .int x5, .ref (md 40), .ref (md 41), .int m_thoughtSlow, .int m_came, .ref (md 44), .int m_acts, .int m_undone, .ref (md 47), .ref (md 48), .int m_laid, .ref (md 50), .ref (md 51), .ref (md 52), .ref (md 53), .ref (md 54), .int m_seens, .int m_time, .ref (md 57), .ref (md 58)])), (md 20, .inl (cyI, 2, .inl m_ruleFrom)), (md 21, .inl (cyI, 2, .inl m_ruleTo)), (md 24, .inl (cyI, 1120, .inl m_code)), (md 25, .inl (cyI, 1120, .inl m_codeNumber)), (md 28, .inl (cyI, 60, .inl (u14430.1 0))), (md 40, .inl (cyI, 520, .inl m_all))] := hD
      refine lv_goto (tgt := 69) hx hb dX7_delayOf_65 (by decide) ?_
      exact W.iret (v := r14431) hx hb hr (fun t ht hW => ⟨⟨r14431, ((fun _ => u14430.1 0), (fun k => match k with | 0 => x1 | 1 => x2 | 2 => x3 | 3 => x4 | _ => x5), (fun _ => 0), (fun _ => fun _ => 0)), rfl, trivial, cE.of ht hP hD [1, 0, 2, 3, 4, 5, 6, 7] (by decide) rfl⟩, hS.F ht⟩) hS.2.2 dX7_delayOf_69
  · have c14422 := i_nle (a := m_thoughtSlow.toInt) (b := 0) c14422 rfl (by decide)
    refine lv_aload_n hx hb dX7_delayOf_7 rfl (lv_at hl 0 rfl) ?_
    refine va_get (D := (dC, dI)) (ci := 7) (v := .int m_thoughtSlow) (C := RX7) (T := TX7) (N := 59) hx hb hts hi7 hown hK hP 0 rfl rfl 42 (by decide) (hts _ (ow_m (k := 0) rfl)) (fun _ h9 => h9) rfl dX7_delayOf_8 ?_
    exact W.iret (v := m_thoughtSlow) hx hb hr (fun t ht hW => ⟨⟨m_thoughtSlow, ((fun _ => m_pile), (fun k => match k with | 0 => m_askFrom | 1 => m_askTo | 2 => m_askWrite | 3 => m_askUnder | _ => m_askBack), (fun _ => 0), (fun _ => fun _ => 0)), rfl, trivial, cE.of ht hP hD [0, 1, 2, 3, 4, 5, 6, 7] (by decide) rfl⟩, hS.F ht⟩) hS.2.2 dX7_delayOf_11
def wo_k_M_sendDown : List Cond := [.fieldLink RX7 76 "ReplicaChainModel" "all" "[I", .methodLink RX7 310 yX7_nodeAt, .instanceMethod yX7_nodeAt, .selects RX7 yX7_nodeAt yX7_nodeAt, .initialized RX7, .methodLink RX7 350 yX7_delayOf, .instanceMethod yX7_delayOf, .selects RX7 yX7_delayOf yX7_delayOf]
def wq_k_M_sendDown : List Cond := .code yX7_sendDown cX7_sendDown 6 none :: (wo_k_M_sendDown ++ (wq_k_M_nodeAt ++ (wq_k_M_delayOf ++ (wsX70 ++ []))))
theorem gd_k_M_sendDown : Gd wq_k_M_sendDown := gd_c (gd_a (gd_o (by decide +kernel)) (gd_a gd_k_M_nodeAt (gd_a gd_k_M_delayOf (gd_a gd_u gd_0))))
abbrev wc_k_M_sendDown (cyB cyI cyJ cyZ cyO : ClassId) (hM : Nat) (md : Nat → Nat) (m_told : Nat → Int32) (m_ruleFrom : Nat → Int32) (m_ruleTo : Nat → Int32) (m_code : Nat → Int32) (m_codeNumber : Nat → Int32) (m_pile : Nat → Int32) (m_all : Nat → Int32) (m_taped : Int32) (m_size : Int32) (m_faultKind : Int32) (m_faultPlace : Int32) (m_at : Int32) (m_end : Int32) (m_token : Int32) (m_number : Int32) (m_bank : Int32) (m_rb : Int32) (m_codes : Int32) (m_within : Int32) (m_piled : Int32) (m_unitsInRule : Int32) (m_askFrom : Int32) (m_askTo : Int32) (m_askWrite : Int32) (m_askUnder : Int32) (m_askBack : Int32) (m_thoughtSlow : Int32) (m_came : Int32) (m_acts : Int32) (m_undone : Int32) (m_laid : Int32) (m_seens : Int32) (m_time : Int32) (m_name : Int64) (x1 : Int32) (x2 : Int32) (x3 : Int32) : va_W := [(hM, .inr (7, [.ref (md 0), .ref (md 1), .int m_taped, .int m_size, .int m_faultKind, .int m_faultPlace, .int m_at, .int m_end, .int m_token, .int m_number, .long m_name, .ref (md 11), .ref (md 12), .ref (md 13), .ref (md 14), .ref (md 15), .ref (md 16), .ref (md 17), .ref (md 18), .ref (md 19), .ref (md 20), .ref (md 21), .ref (md 22), .ref (md 23), .ref (md 24), .ref (md 25), .ref (md 26), .ref (md 27), .ref (md 28), .int m_bank, .int m_rb, .int m_codes, .int m_within, .int m_piled, .int m_unitsInRule, .int m_askFrom, .int m_askTo, .int m_askWrite, .int m_askUnder, .int m_askBack, .ref (md 40), .ref (md 41), .int m_thoughtSlow, .int m_came, .ref (md 44), .int m_acts, .int m_undone, .ref (md 47), .ref (md 48), .int m_laid, .ref (md 50), .ref (md 51), .ref (md 52), .ref (md 53), .ref (md 54), .int m_seens, .int m_time, .ref (md 57), .ref (md 58)])), (md 18, .inl (cyI, 2, .inl m_told)), (md 20, .inl (cyI, 2, .inl m_ruleFrom)), (md 21, .inl (cyI, 2, .inl m_ruleTo)), (md 24, .inl (cyI, 1120, .inl m_code)), (md 25, .inl (cyI, 1120, .inl m_codeNumber)), (md 28, .inl (cyI, 60, .inl m_pile)), (md 40, .inl (cyI, 520, .inl m_all))]
set_option maxHeartbeats 4000000 in
set_option maxRecDepth 100000 in
theorem k_M_sendDown (l : Launch) (dC : Nat → ClassId) (dI : Nat → Nat → Nat) (cyB cyI cyJ cyZ cyO : ClassId) (hM : Nat) (md : Nat → Nat) (m_told : Nat → Int32) (m_ruleFrom : Nat → Int32) (m_ruleTo : Nat → Int32) (m_code : Nat → Int32) (m_codeNumber : Nat → Int32) (m_pile : Nat → Int32) (m_all : Nat → Int32) (m_taped : Int32) (m_size : Int32) (m_faultKind : Int32) (m_faultPlace : Int32) (m_at : Int32) (m_end : Int32) (m_token : Int32) (m_number : Int32) (m_bank : Int32) (m_rb : Int32) (m_codes : Int32) (m_within : Int32) (m_piled : Int32) (m_unitsInRule : Int32) (m_askFrom : Int32) (m_askTo : Int32) (m_askWrite : Int32) (m_askUnder : Int32) (m_askBack : Int32) (m_thoughtSlow : Int32) (m_came : Int32) (m_acts : Int32) (m_undone : Int32) (m_laid : Int32) (m_seens : Int32) (m_time : Int32) (m_name : Int64) (x1 : Int32) (x2 : Int32) (x3 : Int32) (sz : Nat) (l_m_taped : 0 ≤ m_taped.toInt) (u_m_taped : m_taped.toInt ≤ 1600) (l_m_size : 0 ≤ m_size.toInt) (u_m_size : m_size.toInt ≤ 1600) (l_m_bank : 0 ≤ m_bank.toInt) (u_m_bank : m_bank.toInt ≤ 1) (l_m_rb : 0 ≤ m_rb.toInt) (u_m_rb : m_rb.toInt ≤ 1) (l_m_acts : 0 ≤ m_acts.toInt) (u_m_acts : m_acts.toInt ≤ 40) (l_m_undone : 0 ≤ m_undone.toInt) (u_m_undone : m_undone.toInt ≤ 40) (l_m_laid : 0 ≤ m_laid.toInt) (u_m_laid : m_laid.toInt ≤ 6) (l_m_seens : 0 ≤ m_seens.toInt) (u_m_seens : m_seens.toInt ≤ 30) (l_m_time : 0 ≤ m_time.toInt) (u_m_time : m_time.toInt ≤ 100000) (i0_m_all : In2 m_all 0 1 (0) (6)) (i1_m_all : In2 m_all 1 7 (0) (7)) (i2_m_all : In2 m_all 7 15 (0) (40)) (i3_m_all : In2 m_all 15 23 (0) (40)) (i4_m_all : In2 m_all 105 106 (-1) (7)) (i5_m_all : In2 m_all 109 110 (0) (999)) (v0_m_ : AI m_all) (l_x1 : 0 ≤ x1.toInt) (u_x1 : x1.toInt ≤ 4) (l_x2 : 1 ≤ x2.toInt) (u_x2 : x2.toInt ≤ 40) (hCI : CI m_code m_ruleFrom m_ruleTo) : Met l yX7_sendDown wq_k_M_sendDown ({ frames := 3, cells := 0, slots := 0, locals := 70 }) (va_Pc [.ref hM, .int x1, .int x2, .int x3] (cB (dC, dI) (kT cyB cyI cyJ cyZ cyO) (wc_k_M_sendDown cyB cyI cyJ cyZ cyO hM md m_told m_ruleFrom m_ruleTo m_code m_codeNumber m_pile m_all m_taped m_size m_faultKind m_faultPlace m_at m_end m_token m_number m_bank m_rb m_codes m_within m_piled m_unitsInRule m_askFrom m_askTo m_askWrite m_askUnder m_askBack m_thoughtSlow m_came m_acts m_undone m_laid m_seens m_time m_name x1 x2 x3) sz)) (va_Qv (fun (u : ST4) => (In2 (u.1 1) 0 1 (0) (6)) ∧ (In2 (u.1 1) 1 7 (0) (7)) ∧ (In2 (u.1 1) 7 15 (0) (40)) ∧ (In2 (u.1 1) 15 23 (0) (40)) ∧ (In2 (u.1 1) 105 106 (-1) (7)) ∧ (In2 (u.1 1) 109 110 (0) (999)) ∧ (AI (u.1 1)) ∧ (∀ j : Nat, j < 110 → (u.1 1) j = m_all j)) (fun (u : ST4) t => cE (dC, dI) (va_A (wc_k_M_sendDown cyB cyI cyJ cyZ cyO hM md m_told m_ruleFrom m_ruleTo m_code m_codeNumber m_pile m_all m_taped m_size m_faultKind m_faultPlace m_at m_end m_token m_number m_bank m_rb m_codes m_within m_piled m_unitsInRule m_askFrom m_askTo m_askWrite m_askUnder m_askBack m_thoughtSlow m_came m_acts m_undone m_laid m_seens m_time m_name x1 x2 x3) sz) ([(hM, .inr (7, [.ref (md 0), .ref (md 1), .int m_taped, .int m_size, .int m_faultKind, .int m_faultPlace, .int m_at, .int m_end, .int m_token, .int m_number, .long m_name, .ref (md 11), .ref (md 12), .ref (md 13), .ref (md 14), .ref (md 15), .ref (md 16), .ref (md 17), .ref (md 18), .ref (md 19), .ref (md 20), .ref (md 21), .ref (md 22), .ref (md 23), .ref (md 24), .ref (md 25), .ref (md 26), .ref (md 27), .ref (md 28), .int m_bank, .int m_rb, .int m_codes, .int m_within, .int m_piled, .int m_unitsInRule, .int (u.2.1 0), .int (u.2.1 1), .int (u.2.1 2), .int (u.2.1 3), .int (u.2.1 4), .ref (md 40), .ref (md 41), .int m_thoughtSlow, .int m_came, .ref (md 44), .int m_acts, .int m_undone, .ref (md 47), .ref (md 48), .int m_laid, .ref (md 50), .ref (md 51), .ref (md 52), .ref (md 53), .ref (md 54), .int m_seens, .int m_time, .ref (md 57), .ref (md 58)])), (md 18, .inl (cyI, 2, .inl m_told)), (md 20, .inl (cyI, 2, .inl m_ruleFrom)), (md 21, .inl (cyI, 2, .inl m_ruleTo)), (md 24, .inl (cyI, 1120, .inl m_code)), (md 25, .inl (cyI, 1120, .inl m_codeNumber)), (md 28, .inl (cyI, 60, .inl (u.1 0))), (md 40, .inl (cyI, 520, .inl (u.1 1)))]) t.heap) (va_A (wc_k_M_sendDown cyB cyI cyJ cyZ cyO hM md m_told m_ruleFrom m_ruleTo m_code m_codeNumber m_pile m_all m_taped m_size m_faultKind m_faultPlace m_at m_end m_token m_number m_bank m_rb m_codes m_within m_piled m_unitsInRule m_askFrom m_askTo m_askWrite m_askUnder m_askBack m_thoughtSlow m_came m_acts m_undone m_laid m_seens m_time m_name x1 x2 x3) sz)) 0 0 (va_A (wc_k_M_sendDown cyB cyI cyJ cyZ cyO hM md m_told m_ruleFrom m_ruleTo m_code m_codeNumber m_pile m_all m_taped m_size m_faultKind m_faultPlace m_at m_end m_token m_number m_bank m_rb m_codes m_within m_piled m_unitsInRule m_askFrom m_askTo m_askWrite m_askUnder m_askBack m_thoughtSlow m_came m_acts m_undone m_laid m_seens m_time m_name x1 x2 x3) sz) := by
  refine Met.ofW (cc := cX7_sendDown) (maxL := 6) (ret := none) (by decide) rfl ?_
  intro p e s m args below meth c s₁ B hml hv
  obtain ⟨rfl, hsz, hP, hKN, hD0⟩ := hv
  have hx := B.exec
  have hb := B.bytes
  have hr := B.returns
  have hts := atoms_spec (ws := wq_k_M_sendDown) B.pre
  have hown : s.vm.findClass RX7 = some m.cls := findClass_of_methodNamed B.named
  have hlocks := B.notSynchronized
  have hK := hKN.1
  have hfix : CallFix p m c cX7_sendDown 6 s [.ref hM, .int x1, .int x2, .int x3].toArray wq_k_M_sendDown RX7 := ⟨hx, hb, hml, hown, hts⟩
  have hi7 : ∀ w ∈ wsX70, w ∈ wq_k_M_sendDown := (sb_c (sb_r (sb_r sb_l)))
  subst hsz
  have hD := hD0.self (sz := s.heap.size)
  generalize hAe : va_A (wc_k_M_sendDown cyB cyI cyJ cyZ cyO hM md m_told m_ruleFrom m_ruleTo m_code m_codeNumber m_pile m_all m_taped m_size m_faultKind m_faultPlace m_at m_end m_token m_number m_bank m_rb m_codes m_within m_piled m_unitsInRule m_askFrom m_askTo m_askWrite m_askUnder m_askBack m_thoughtSlow m_came m_acts m_undone m_laid m_seens m_time m_name x1 x2 x3) s.heap.size = A at hD ⊢
  have hA : ∀ q : Nat, s.heap.size ≤ q → A q := fun q h => by rw [← hAe]; exact Or.inr h
  have hS : va_S A s.heap s.heap [] := va_S.rf
  have hl := lv_entry ([.ref hM, .int x1, .int x2, .int x3]) (n := 6) (Nat.le_of_ble_eq_true rfl)
  rw [lg_entry_eq]
  generalize (lg_sl ([.ref hM, .int x1, .int x2, .int x3]) ++ List.replicate (6 - (lg_sl ([.ref hM, .int x1, .int x2, .int x3])).length) Slot.unset).toArray = ls at hl ⊢
  have hl : lv_has ls 6 [(0, .ref hM), (1, .int x1), (2, .int x2), (3, .int x3)] := hl
  have ck0 : (0 : Int32).toInt = 0 := by decide
  refine lv_bipush (v := 110) hx hb dX7_sendDown_0 (by decide) ?_
  refine lv_bipush (v := 41) hx hb dX7_sendDown_2 (by decide) ?_
  refine lv_iload_n hx hb dX7_sendDown_4 rfl (lv_at hl 1 rfl) ?_
  refine lv_imul hx hb dX7_sendDown_5 ?_
  refine lv_topi (fun z14534 ez14534 => ?_)
  have tz14534 := ti_mul (a := 41) (b := x1.toInt) ez14534 (by decide) rfl (by omega) (by omega)
  refine lv_iadd hx hb dX7_sendDown_6 ?_
  refine lv_topi (fun z14535 ez14535 => ?_)
  have tz14535 := ti_add (a := 110) (b := z14534.toInt) ez14535 (by decide) rfl (by omega) (by omega)
  refine lv_istore (lv' := [(4, .int z14535), (0, .ref hM), (1, .int x1), (2, .int x2), (3, .int x3)]) hx hb dX7_sendDown_7 hl (by decide) rfl (fun ls hl => ?_)
  refine lv_aload_n hx hb dX7_sendDown_9 rfl (lv_at hl 1 rfl) ?_
  refine va_get (D := (dC, dI)) (ci := 7) (v := .ref (md 40)) (C := RX7) (T := TX7) (N := 59) hx hb hts hi7 hown hK hP 0 rfl rfl 40 (by decide) (hts _ (ow_m (k := 0) rfl)) (fun _ h9 => h9) rfl dX7_sendDown_10 ?_
  refine lv_bipush (v := 108) hx hb dX7_sendDown_13 (by decide) ?_
  refine va_iald hx hb hK hP 7 1 rfl rfl (vp_i (a := 108) (by decide) (by decide) (by decide)) dX7_sendDown_15 ?_
  refine lv_topi (fun z14536 ez14536 => ?_)
  refine lv_aload_n hx hb dX7_sendDown_16 rfl (lv_at hl 1 rfl) ?_
  refine lv_aload_n hx hb dX7_sendDown_17 rfl (lv_at hl 1 rfl) ?_
  refine lv_iload_n hx hb dX7_sendDown_18 rfl (lv_at hl 2 rfl) ?_
  refine gf_i (wr := [(md 18, .inl (cyI, 2, .inl m_told)), (md 20, .inl (cyI, 2, .inl m_ruleFrom)), (md 21, .inl (cyI, 2, .inl m_ruleTo)), (md 24, .inl (cyI, 1120, .inl m_code)), (md 25, .inl (cyI, 1120, .inl m_codeNumber)), (md 28, .inl (cyI, 60, .inl m_pile))]) (va_runV (As := [.int x1]) (rest := [.ref hM, .int z14536]) hfix (k_M_nodeAt l dC dI cyB cyI cyJ cyZ cyO hM md m_all m_taped m_size m_faultKind m_faultPlace m_at m_end m_token m_number m_bank m_rb m_codes m_within m_piled m_unitsInRule m_askFrom m_askTo m_askWrite m_askUnder m_askBack m_thoughtSlow m_came m_acts m_undone m_laid m_seens m_time m_name x1 _ (by first | omega | assumption) (by first | omega | assumption) (by first | omega | assumption) (by first | omega | assumption) (by first | omega | assumption) (by first | omega | assumption) (by first | omega | assumption) (by first | omega | assumption) (by first | omega | assumption) (by first | omega | assumption) (by first | omega | assumption) (by first | omega | assumption) (by first | omega | assumption) (by first | omega | assumption) (by first | omega | assumption) (by first | omega | assumption) (by first | omega | assumption) (by first | omega | assumption) i0_m_all i1_m_all i2_m_all i3_m_all i4_m_all i5_m_all (by first | omega | assumption) (by first | omega | assumption)) (cwV 1 hts (gi_V (ow_m (k := 1) rfl) (ow_m (k := 2) rfl) (ow_m (k := 3) rfl) (ow_m (k := 4) rfl) (sb_c sb_l) gd_k_M_nodeAt) rfl rfl rfl (by decide +kernel) ⟨Nat.le_of_ble_eq_true rfl, Nat.le_of_ble_eq_true rfl⟩) (g_preV hKN hP hD [0, 7] rfl (by decide) 0 7 rfl rfl) rfl rfl hl.1 rfl (lv_room (Nat.le_of_ble_eq_true rfl)) dX7_sendDown_19 ⟨Nat.le_of_ble_eq_true rfl, Nat.le_of_ble_eq_true rfl⟩) hP hD hS hA [0, 7] [1, 2, 3, 4, 5, 6] rfl rfl (by decide) (by decide) (fun r14537 u14538 H locs qu14538 hP hD hS => ?_)
  obtain ⟨b14539, b14540, b14541⟩ := qu14538
  have hP : va_P (dC, dI) vwCl [(md 18, .inl (cyI, 2, .inl m_told)), (md 20, .inl (cyI, 2, .inl m_ruleFrom)), (md 21, .inl (cyI, 2, .inl m_ruleTo)), (md 24, .inl (cyI, 1120, .inl m_code)), (md 25, .inl (cyI, 1120, .inl m_codeNumber)), (md 28, .inl (cyI, 60, .inl m_pile)), (hM, .inr (7, [.ref (md 0), .ref (md 1), .int m_taped, .int m_size, .int m_faultKind, .int m_faultPlace, .int m_at, .int m_end, .int m_token, .int m_number, .long m_name, .ref (md 11), .ref (md 12), .ref (md 13), .ref (md 14), .ref (md 15), .ref (md 16), .ref (md 17), .ref (md 18), .ref (md 19), .ref (md 20), .ref (md 21), .ref (md 22), .ref (md 23), .ref (md 24), .ref (md 25), .ref (md 26), .ref (md 27), .ref (md 28), .int m_bank, .int m_rb, .int m_codes, .int m_within, .int m_piled, .int m_unitsInRule, .int m_askFrom, .int m_askTo, .int m_askWrite, .int m_askUnder, .int m_askBack, .ref (md 40), .ref (md 41), .int m_thoughtSlow, .int m_came, .ref (md 44), .int m_acts, .int m_undone, .ref (md 47), .ref (md 48), .int m_laid, .ref (md 50), .ref (md 51), .ref (md 52), .ref (md 53), .ref (md 54), .int m_seens, .int m_time, .ref (md 57), .ref (md 58)])), (md 40, .inl (cyI, 520, .inl m_all))] H := hP
  have hD : va_D A [(md 18, .inl (cyI, 2, .inl m_told)), (md 20, .inl (cyI, 2, .inl m_ruleFrom)), (md 21, .inl (cyI, 2, .inl m_ruleTo)), (md 24, .inl (cyI, 1120, .inl m_code)), (md 25, .inl (cyI, 1120, .inl m_codeNumber)), (md 28, .inl (cyI, 60, .inl m_pile)), (hM, .inr (7, [.ref (md 0), .ref (md 1), .int m_taped, .int m_size, .int m_faultKind, .int m_faultPlace, .int m_at, .int m_end, .int m_token, .int m_number, .long m_name, .ref (md 11), .ref (md 12), .ref (md 13), .ref (md 14), .ref (md 15), .ref (md 16), .ref (md 17), .ref (md 18), .ref (md 19), .ref (md 20), .ref (md 21), .ref (md 22), .ref (md 23), .ref (md 24), .ref (md 25), .ref (md 26), .ref (md 27), .ref (md 28), .int m_bank, .int m_rb, .int m_codes, .int m_within, .int m_piled, .int m_unitsInRule, .int m_askFrom, .int m_askTo, .int m_askWrite, .int m_askUnder, .int m_askBack, .ref (md 40), .ref (md 41), .int m_thoughtSlow, .int m_came, .ref (md 44), .int m_acts, .int m_undone, .ref (md 47), .ref (md 48), .int m_laid, .ref (md 50), .ref (md 51), .ref (md 52), .ref (md 53), .ref (md 54), .int m_seens, .int m_time, .ref (md 57), .ref (md 58)])), (md 40, .inl (cyI, 520, .inl m_all))] := hD
  refine lv_aload_n hx hb dX7_sendDown_22 rfl (lv_at hl 1 rfl) ?_
  refine lv_iload_n hx hb dX7_sendDown_23 rfl (lv_at hl 2 rfl) ?_
  refine lv_iconst (v := 1) hx hb dX7_sendDown_24 (by decide) ?_
  refine lv_iadd hx hb dX7_sendDown_25 ?_
  refine lv_topi (fun z14542 ez14542 => ?_)
  have tz14542 := ti_add (a := x1.toInt) (b := 1) ez14542 rfl (by decide) (by omega) (by omega)
  refine gf_i (wr := [(md 18, .inl (cyI, 2, .inl m_told)), (md 20, .inl (cyI, 2, .inl m_ruleFrom)), (md 21, .inl (cyI, 2, .inl m_ruleTo)), (md 24, .inl (cyI, 1120, .inl m_code)), (md 25, .inl (cyI, 1120, .inl m_codeNumber)), (md 28, .inl (cyI, 60, .inl m_pile))]) (va_runV (As := [.int z14542]) (rest := [.int r14537, .ref hM, .int z14536]) hfix (k_M_nodeAt l dC dI cyB cyI cyJ cyZ cyO hM md m_all m_taped m_size m_faultKind m_faultPlace m_at m_end m_token m_number m_bank m_rb m_codes m_within m_piled m_unitsInRule m_askFrom m_askTo m_askWrite m_askUnder m_askBack m_thoughtSlow m_came m_acts m_undone m_laid m_seens m_time m_name z14542 _ (by first | omega | assumption) (by first | omega | assumption) (by first | omega | assumption) (by first | omega | assumption) (by first | omega | assumption) (by first | omega | assumption) (by first | omega | assumption) (by first | omega | assumption) (by first | omega | assumption) (by first | omega | assumption) (by first | omega | assumption) (by first | omega | assumption) (by first | omega | assumption) (by first | omega | assumption) (by first | omega | assumption) (by first | omega | assumption) (by first | omega | assumption) (by first | omega | assumption) i0_m_all i1_m_all i2_m_all i3_m_all i4_m_all i5_m_all (by first | omega | assumption) (by first | omega | assumption)) (cwV 1 hts (gi_V (ow_m (k := 1) rfl) (ow_m (k := 2) rfl) (ow_m (k := 3) rfl) (ow_m (k := 4) rfl) (sb_c sb_l) gd_k_M_nodeAt) rfl rfl rfl (by decide +kernel) ⟨Nat.le_of_ble_eq_true rfl, Nat.le_of_ble_eq_true rfl⟩) (g_preV hKN hP hD [6, 7] rfl (by decide) 0 7 rfl rfl) rfl rfl hl.1 rfl (lv_room (Nat.le_of_ble_eq_true rfl)) dX7_sendDown_26 ⟨Nat.le_of_ble_eq_true rfl, Nat.le_of_ble_eq_true rfl⟩) hP hD hS hA [6, 7] [0, 1, 2, 3, 4, 5] rfl rfl (by decide) (by decide) (fun r14543 u14544 H locs qu14544 hP hD hS => ?_)
  obtain ⟨b14545, b14546, b14547⟩ := qu14544
  have hP : va_P (dC, dI) vwCl [(md 18, .inl (cyI, 2, .inl m_told)), (md 20, .inl (cyI, 2, .inl m_ruleFrom)), (md 21, .inl (cyI, 2, .inl m_ruleTo)), (md 24, .inl (cyI, 1120, .inl m_code)), (md 25, .inl (cyI, 1120, .inl m_codeNumber)), (md 28, .inl (cyI, 60, .inl m_pile)), (hM, .inr (7, [.ref (md 0), .ref (md 1), .int m_taped, .int m_size, .int m_faultKind, .int m_faultPlace, .int m_at, .int m_end, .int m_token, .int m_number, .long m_name, .ref (md 11), .ref (md 12), .ref (md 13), .ref (md 14), .ref (md 15), .ref (md 16), .ref (md 17), .ref (md 18), .ref (md 19), .ref (md 20), .ref (md 21), .ref (md 22), .ref (md 23), .ref (md 24), .ref (md 25), .ref (md 26), .ref (md 27), .ref (md 28), .int m_bank, .int m_rb, .int m_codes, .int m_within, .int m_piled, .int m_unitsInRule, .int m_askFrom, .int m_askTo, .int m_askWrite, .int m_askUnder, .int m_askBack, .ref (md 40), .ref (md 41), .int m_thoughtSlow, .int m_came, .ref (md 44), .int m_acts, .int m_undone, .ref (md 47), .ref (md 48), .int m_laid, .ref (md 50), .ref (md 51), .ref (md 52), .ref (md 53), .ref (md 54), .int m_seens, .int m_time, .ref (md 57), .ref (md 58)])), (md 40, .inl (cyI, 520, .inl m_all))] H := hP
  have hD : va_D A [(md 18, .inl (cyI, 2, .inl m_told)), (md 20, .inl (cyI, 2, .inl m_ruleFrom)), (md 21, .inl (cyI, 2, .inl m_ruleTo)), (md 24, .inl (cyI, 1120, .inl m_code)), (md 25, .inl (cyI, 1120, .inl m_codeNumber)), (md 28, .inl (cyI, 60, .inl m_pile)), (hM, .inr (7, [.ref (md 0), .ref (md 1), .int m_taped, .int m_size, .int m_faultKind, .int m_faultPlace, .int m_at, .int m_end, .int m_token, .int m_number, .long m_name, .ref (md 11), .ref (md 12), .ref (md 13), .ref (md 14), .ref (md 15), .ref (md 16), .ref (md 17), .ref (md 18), .ref (md 19), .ref (md 20), .ref (md 21), .ref (md 22), .ref (md 23), .ref (md 24), .ref (md 25), .ref (md 26), .ref (md 27), .ref (md 28), .int m_bank, .int m_rb, .int m_codes, .int m_within, .int m_piled, .int m_unitsInRule, .int m_askFrom, .int m_askTo, .int m_askWrite, .int m_askUnder, .int m_askBack, .ref (md 40), .ref (md 41), .int m_thoughtSlow, .int m_came, .ref (md 44), .int m_acts, .int m_undone, .ref (md 47), .ref (md 48), .int m_laid, .ref (md 50), .ref (md 51), .ref (md 52), .ref (md 53), .ref (md 54), .int m_seens, .int m_time, .ref (md 57), .ref (md 58)])), (md 40, .inl (cyI, 520, .inl m_all))] := hD
  refine lv_iload_n hx hb dX7_sendDown_29 rfl (lv_at hl 3 rfl) ?_
  refine lv_iload_n hx hb dX7_sendDown_30 rfl (lv_at hl 4 rfl) ?_
  refine lv_iconst (v := 0) hx hb dX7_sendDown_31 (by decide) ?_
  refine gf_i (wr := []) (va_runV (As := [.int r14537, .int r14543, .int x2, .int x3, .int 0]) (rest := [.int z14536]) hfix (k_M_delayOf l dC dI cyB cyI cyJ cyZ cyO hM md m_told m_ruleFrom m_ruleTo m_code m_codeNumber m_pile m_all m_taped m_size m_faultKind m_faultPlace m_at m_end m_token m_number m_bank m_rb m_codes m_within m_piled m_unitsInRule m_askFrom m_askTo m_askWrite m_askUnder m_askBack m_thoughtSlow m_came m_acts m_undone m_laid m_seens m_time m_name r14537 r14543 x2 x3 (0 : Int32) _ (by first | omega | assumption) (by first | omega | assumption) (by first | omega | assumption) (by first | omega | assumption) (by first | omega | assumption) (by first | omega | assumption) (by first | omega | assumption) (by first | omega | assumption) (by first | omega | assumption) (by first | omega | assumption) (by first | omega | assumption) (by first | omega | assumption) (by first | omega | assumption) (by first | omega | assumption) (by first | omega | assumption) (by first | omega | assumption) (by first | omega | assumption) (by first | omega | assumption) i0_m_all i1_m_all i2_m_all i3_m_all i4_m_all i5_m_all (by first | omega | assumption)) (cwV 5 hts (gi_V (ow_m (k := 5) rfl) (ow_m (k := 6) rfl) (ow_m (k := 7) rfl) (ow_m (k := 4) rfl) (sb_c (sb_r sb_l)) gd_k_M_delayOf) rfl rfl rfl (by decide +kernel) ⟨Nat.le_of_ble_eq_true rfl, Nat.le_of_ble_eq_true rfl⟩) (g_preV hKN hP hD [6, 0, 1, 2, 3, 4, 5, 7] rfl (by decide) 0 7 rfl rfl) rfl rfl hl.1 rfl (lv_room (Nat.le_of_ble_eq_true rfl)) dX7_sendDown_32 ⟨Nat.le_of_ble_eq_true rfl, Nat.le_of_ble_eq_true rfl⟩) hP hD hS hA [6, 0, 1, 2, 3, 4, 5, 7] [] rfl rfl (by decide) (by decide) (fun r14548 u14549 H locs qu14549 hP hD hS => ?_)
  have hP : va_P (dC, dI) vwCl [(hM, .inr (7, [.ref (md 0), .ref (md 1), .int m_taped, .int m_size, .int m_faultKind, .int m_faultPlace, .int m_at, .int m_end, .int m_token, .int m_number, .long m_name, .ref (md 11), .ref (md 12), .ref (md 13), .ref (md 14), .ref (md 15), .ref (md 16), .ref (md 17), .ref (md 18), .ref (md 19), .ref (md 20), .ref (md 21), .ref (md 22), .ref (md 23), .ref (md 24), .ref (md 25), .ref (md 26), .ref (md 27), .ref (md 28), .int m_bank, .int m_rb, .int m_codes, .int m_within, .int m_piled, .int m_unitsInRule, .int (u14549.2.1 0), .int (u14549.2.1 1), .int (u14549.2.1 2), .int (u14549.2.1 3), .int (u14549.2.1 4), .ref (md 40), .ref (md 41), .int m_thoughtSlow, .int m_came, .ref (md 44), .int m_acts, .int m_undone, .ref (md 47), .ref (md 48), .int m_laid, .ref (md 50), .ref (md 51), .ref (md 52), .ref (md 53), .ref (md 54), .int m_seens, .int m_time, .ref (md 57), .ref (md 58)])), (md 18, .inl (cyI, 2, .inl m_told)), (md 20, .inl (cyI, 2, .inl m_ruleFrom)), (md 21, .inl (cyI, 2, .inl m_ruleTo)), (md 24, .inl (cyI, 1120, .inl m_code)), (md 25, .inl (cyI, 1120, .inl m_codeNumber)), (md 28, .inl (cyI, 60, .inl (u14549.1 0))), (md 40, .inl (cyI, 520, .inl m_all))] H := hP
  have hD : va_D A [(hM, .inr (7, [.ref (md 0), .ref (md 1), .int m_taped, .int m_size, .int m_faultKind, .int m_faultPlace, .int m_at, .int m_end, .int m_token, .int m_number, .long m_name, .ref (md 11), .ref (md 12), .ref (md 13), .ref (md 14), .ref (md 15), .ref (md 16), .ref (md 17), .ref (md 18), .ref (md 19), .ref (md 20), .ref (md 21), .ref (md 22), .ref (md 23), .ref (md 24), .ref (md 25), .ref (md 26), .ref (md 27), .ref (md 28), .int m_bank, .int m_rb, .int m_codes, .int m_within, .int m_piled, .int m_unitsInRule, .int (u14549.2.1 0), .int (u14549.2.1 1), .int (u14549.2.1 2), .int (u14549.2.1 3), .int (u14549.2.1 4), .ref (md 40), .ref (md 41), .int m_thoughtSlow, .int m_came, .ref (md 44), .int m_acts, .int m_undone, .ref (md 47), .ref (md 48), .int m_laid, .ref (md 50), .ref (md 51), .ref (md 52), .ref (md 53), .ref (md 54), .int m_seens, .int m_time, .ref (md 57), .ref (md 58)])), (md 18, .inl (cyI, 2, .inl m_told)), (md 20, .inl (cyI, 2, .inl m_ruleFrom)), (md 21, .inl (cyI, 2, .inl m_ruleTo)), (md 24, .inl (cyI, 1120, .inl m_code)), (md 25, .inl (cyI, 1120, .inl m_codeNumber)), (md 28, .inl (cyI, 60, .inl (u14549.1 0))), (md 40, .inl (cyI, 520, .inl m_all))] := hD
  refine lv_iadd hx hb dX7_sendDown_35 ?_
  refine lv_topi (fun z14550 ez14550 => ?_)
  refine lv_istore (lv' := [(5, .int z14550), (4, .int z14535), (0, .ref hM), (1, .int x1), (2, .int x2), (3, .int x3)]) hx hb dX7_sendDown_36 hl (by decide) rfl (fun ls hl => ?_)
  refine lv_aload_n hx hb dX7_sendDown_38 rfl (lv_at hl 2 rfl) ?_
  refine va_get (D := (dC, dI)) (ci := 7) (v := .ref (md 40)) (C := RX7) (T := TX7) (N := 59) hx hb hts hi7 hown hK hP 0 rfl rfl 40 (by decide) (hts _ (ow_m (k := 0) rfl)) (fun _ h9 => h9) rfl dX7_sendDown_39 ?_
  refine lv_iload hx hb dX7_sendDown_42 (lv_at hl 1 rfl) ?_
  refine lv_iload_n hx hb dX7_sendDown_44 rfl (lv_at hl 4 rfl) ?_
  refine lv_iadd hx hb dX7_sendDown_45 ?_
  refine lv_topi (fun z14551 ez14551 => ?_)
  have tz14551 := ti_add (a := z14535.toInt) (b := x2.toInt) ez14551 rfl rfl (by omega) (by omega)
  refine lv_iload_n hx hb dX7_sendDown_46 rfl (lv_at hl 5 rfl) ?_
  refine lv_if_le (tgt := 80) hx hb dX7_sendDown_47 (by decide) (fun c14552 => ?_) (fun c14552 => ?_)
  · have c14552 := i_le (a := x3.toInt) (b := 0) c14552 rfl (by decide)
    refine lv_iload hx hb dX7_sendDown_80 (lv_at hl 0 rfl) ?_
    refine va_iast hx hb hK hP hD hS 7 1 rfl rfl (vp_i rfl (by omega) (by omega)) dX7_sendDown_82 (fun H locs hP hD hS => ?_)
    have hP : va_P (dC, dI) vwCl [(hM, .inr (7, [.ref (md 0), .ref (md 1), .int m_taped, .int m_size, .int m_faultKind, .int m_faultPlace, .int m_at, .int m_end, .int m_token, .int m_number, .long m_name, .ref (md 11), .ref (md 12), .ref (md 13), .ref (md 14), .ref (md 15), .ref (md 16), .ref (md 17), .ref (md 18), .ref (md 19), .ref (md 20), .ref (md 21), .ref (md 22), .ref (md 23), .ref (md 24), .ref (md 25), .ref (md 26), .ref (md 27), .ref (md 28), .int m_bank, .int m_rb, .int m_codes, .int m_within, .int m_piled, .int m_unitsInRule, .int (u14549.2.1 0), .int (u14549.2.1 1), .int (u14549.2.1 2), .int (u14549.2.1 3), .int (u14549.2.1 4), .ref (md 40), .ref (md 41), .int m_thoughtSlow, .int m_came, .ref (md 44), .int m_acts, .int m_undone, .ref (md 47), .ref (md 48), .int m_laid, .ref (md 50), .ref (md 51), .ref (md 52), .ref (md 53), .ref (md 54), .int m_seens, .int m_time, .ref (md 57), .ref (md 58)])), (md 18, .inl (cyI, 2, .inl m_told)), (md 20, .inl (cyI, 2, .inl m_ruleFrom)), (md 21, .inl (cyI, 2, .inl m_ruleTo)), (md 24, .inl (cyI, 1120, .inl m_code)), (md 25, .inl (cyI, 1120, .inl m_codeNumber)), (md 28, .inl (cyI, 60, .inl (u14549.1 0))), (md 40, .inl (cyI, 520, .inl (upd m_all z14551.toNatClampNeg z14550)))] H := hP
    have hD : va_D A [(hM, .inr (7, [.ref (md 0), .ref (md 1), .int m_taped, .int m_size, .int m_faultKind, .int m_faultPlace, .int m_at, .int m_end, .int m_token, .int m_number, .long m_name, .ref (md 11), .ref (md 12), .ref (md 13), .ref (md 14), .ref (md 15), .ref (md 16), .ref (md 17), .ref (md 18), .ref (md 19), .ref (md 20), .ref (md 21), .ref (md 22), .ref (md 23), .ref (md 24), .ref (md 25), .ref (md 26), .ref (md 27), .ref (md 28), .int m_bank, .int m_rb, .int m_codes, .int m_within, .int m_piled, .int m_unitsInRule, .int (u14549.2.1 0), .int (u14549.2.1 1), .int (u14549.2.1 2), .int (u14549.2.1 3), .int (u14549.2.1 4), .ref (md 40), .ref (md 41), .int m_thoughtSlow, .int m_came, .ref (md 44), .int m_acts, .int m_undone, .ref (md 47), .ref (md 48), .int m_laid, .ref (md 50), .ref (md 51), .ref (md 52), .ref (md 53), .ref (md 54), .int m_seens, .int m_time, .ref (md 57), .ref (md 58)])), (md 18, .inl (cyI, 2, .inl m_told)), (md 20, .inl (cyI, 2, .inl m_ruleFrom)), (md 21, .inl (cyI, 2, .inl m_ruleTo)), (md 24, .inl (cyI, 1120, .inl m_code)), (md 25, .inl (cyI, 1120, .inl m_codeNumber)), (md 28, .inl (cyI, 60, .inl (u14549.1 0))), (md 40, .inl (cyI, 520, .inl (upd m_all z14551.toNatClampNeg z14550)))] := hD
    have i14554 := i0_m_all.out (x := z14550) (i := z14551) (c := z14551.toInt) rfl (by omega) (by omega)
    have i14555 := i1_m_all.out (x := z14550) (i := z14551) (c := z14551.toInt) rfl (by omega) (by omega)
    have i14556 := i2_m_all.out (x := z14550) (i := z14551) (c := z14551.toInt) rfl (by omega) (by omega)
    have i14557 := i3_m_all.out (x := z14550) (i := z14551) (c := z14551.toInt) rfl (by omega) (by omega)
    have i14558 := i4_m_all.out (x := z14550) (i := z14551) (c := z14551.toInt) rfl (by omega) (by omega)
    have i14559 := i5_m_all.out (x := z14550) (i := z14551) (c := z14551.toInt) rfl (by omega) (by omega)
    have k14560 := AI.out (f := m_all) (by assumption) i1_m_all i0_m_all (x := z14550) (i := z14551) (c := z14551.toInt) rfl (by omega) (by omega)
    generalize ef14553 : upd m_all z14551.toNatClampNeg z14550 = f14553 at hP hD i14554 i14555 i14556 i14557 i14558 i14559 k14560
    have hkp : ∀ j : Nat, j < 110 → f14553 j = m_all j := fun j hj => by rw [← ef14553]; exact upd_ne (by show j ≠ Int.toNat _; omega)
    have w14561 : AI f14553 := by assumption
    have w14562 : ∀ j : Nat, j < 110 → f14553 j = m_all j := by first | omega | assumption | rfl
    exact W.vret hx hb hr (fun t ht hW => ⟨⟨((fun k => match k with | 0 => u14549.1 0 | _ => f14553), (fun k => match k with | 0 => u14549.2.1 0 | 1 => u14549.2.1 1 | 2 => u14549.2.1 2 | 3 => u14549.2.1 3 | _ => u14549.2.1 4), (fun _ => 0), (fun _ => fun _ => 0)), rfl, ⟨i14554, i14555, i14556, i14557, i14558, i14559, w14561, w14562⟩, cE.of ht hP hD [0, 1, 2, 3, 4, 5, 6, 7] (by decide) rfl⟩, hS.F ht⟩) hS.2.2 dX7_sendDown_83
  · have c14552 := i_nle (a := x3.toInt) (b := 0) c14552 rfl (by decide)
    refine lv_aload_n hx hb dX7_sendDown_50 rfl (lv_at hl 2 rfl) ?_
    refine va_get (D := (dC, dI)) (ci := 7) (v := .ref (md 40)) (C := RX7) (T := TX7) (N := 59) hx hb hts hi7 hown hK hP 0 rfl rfl 40 (by decide) (hts _ (ow_m (k := 0) rfl)) (fun _ h9 => h9) rfl dX7_sendDown_51 ?_
    refine lv_iload hx hb dX7_sendDown_54 (lv_at hl 1 rfl) ?_
    refine lv_iload_n hx hb dX7_sendDown_56 rfl (lv_at hl 4 rfl) ?_
    refine lv_iadd hx hb dX7_sendDown_57 ?_
    refine lv_topi (fun z14563 ez14563 => ?_)
    have tz14563 := ti_add (a := z14535.toInt) (b := x2.toInt) ez14563 rfl rfl (by omega) (by omega)
    refine lv_iconst (v := 1) hx hb dX7_sendDown_58 (by decide) ?_
    refine lv_isub hx hb dX7_sendDown_59 ?_
    refine lv_topi (fun z14564 ez14564 => ?_)
    have tz14564 := ti_sub (a := z14563.toInt) (b := 1) ez14564 rfl (by decide) (by omega) (by omega)
    refine va_iald hx hb hK hP 7 1 rfl rfl (vp_i rfl (by omega) (by omega)) dX7_sendDown_60 ?_
    refine lv_topi (fun z14565 ez14565 => ?_)
    refine lv_iload hx hb dX7_sendDown_61 (lv_at hl 0 rfl) ?_
    refine lv_icmp_le (tgt := 80) hx hb dX7_sendDown_63 (by decide) (fun c14566 => ?_) (fun c14566 => ?_)
    · have c14566 := i_le (a := z14565.toInt) (b := z14550.toInt) c14566 rfl rfl
      refine lv_iload hx hb dX7_sendDown_80 (lv_at hl 0 rfl) ?_
      refine va_iast hx hb hK hP hD hS 7 1 rfl rfl (vp_i rfl (by omega) (by omega)) dX7_sendDown_82 (fun H locs hP hD hS => ?_)
      have hP : va_P (dC, dI) vwCl [(hM, .inr (7, [.ref (md 0), .ref (md 1), .int m_taped, .int m_size, .int m_faultKind, .int m_faultPlace, .int m_at, .int m_end, .int m_token, .int m_number, .long m_name, .ref (md 11), .ref (md 12), .ref (md 13), .ref (md 14), .ref (md 15), .ref (md 16), .ref (md 17), .ref (md 18), .ref (md 19), .ref (md 20), .ref (md 21), .ref (md 22), .ref (md 23), .ref (md 24), .ref (md 25), .ref (md 26), .ref (md 27), .ref (md 28), .int m_bank, .int m_rb, .int m_codes, .int m_within, .int m_piled, .int m_unitsInRule, .int (u14549.2.1 0), .int (u14549.2.1 1), .int (u14549.2.1 2), .int (u14549.2.1 3), .int (u14549.2.1 4), .ref (md 40), .ref (md 41), .int m_thoughtSlow, .int m_came, .ref (md 44), .int m_acts, .int m_undone, .ref (md 47), .ref (md 48), .int m_laid, .ref (md 50), .ref (md 51), .ref (md 52), .ref (md 53), .ref (md 54), .int m_seens, .int m_time, .ref (md 57), .ref (md 58)])), (md 18, .inl (cyI, 2, .inl m_told)), (md 20, .inl (cyI, 2, .inl m_ruleFrom)), (md 21, .inl (cyI, 2, .inl m_ruleTo)), (md 24, .inl (cyI, 1120, .inl m_code)), (md 25, .inl (cyI, 1120, .inl m_codeNumber)), (md 28, .inl (cyI, 60, .inl (u14549.1 0))), (md 40, .inl (cyI, 520, .inl (upd m_all z14551.toNatClampNeg z14550)))] H := hP
      have hD : va_D A [(hM, .inr (7, [.ref (md 0), .ref (md 1), .int m_taped, .int m_size, .int m_faultKind, .int m_faultPlace, .int m_at, .int m_end, .int m_token, .int m_number, .long m_name, .ref (md 11), .ref (md 12), .ref (md 13), .ref (md 14), .ref (md 15), .ref (md 16), .ref (md 17), .ref (md 18), .ref (md 19), .ref (md 20), .ref (md 21), .ref (md 22), .ref (md 23), .ref (md 24), .ref (md 25), .ref (md 26), .ref (md 27), .ref (md 28), .int m_bank, .int m_rb, .int m_codes, .int m_within, .int m_piled, .int m_unitsInRule, .int (u14549.2.1 0), .int (u14549.2.1 1), .int (u14549.2.1 2), .int (u14549.2.1 3), .int (u14549.2.1 4), .ref (md 40), .ref (md 41), .int m_thoughtSlow, .int m_came, .ref (md 44), .int m_acts, .int m_undone, .ref (md 47), .ref (md 48), .int m_laid, .ref (md 50), .ref (md 51), .ref (md 52), .ref (md 53), .ref (md 54), .int m_seens, .int m_time, .ref (md 57), .ref (md 58)])), (md 18, .inl (cyI, 2, .inl m_told)), (md 20, .inl (cyI, 2, .inl m_ruleFrom)), (md 21, .inl (cyI, 2, .inl m_ruleTo)), (md 24, .inl (cyI, 1120, .inl m_code)), (md 25, .inl (cyI, 1120, .inl m_codeNumber)), (md 28, .inl (cyI, 60, .inl (u14549.1 0))), (md 40, .inl (cyI, 520, .inl (upd m_all z14551.toNatClampNeg z14550)))] := hD
      have i14568 := i0_m_all.out (x := z14550) (i := z14551) (c := z14551.toInt) rfl (by omega) (by omega)
      have i14569 := i1_m_all.out (x := z14550) (i := z14551) (c := z14551.toInt) rfl (by omega) (by omega)
      have i14570 := i2_m_all.out (x := z14550) (i := z14551) (c := z14551.toInt) rfl (by omega) (by omega)
      have i14571 := i3_m_all.out (x := z14550) (i := z14551) (c := z14551.toInt) rfl (by omega) (by omega)
      have i14572 := i4_m_all.out (x := z14550) (i := z14551) (c := z14551.toInt) rfl (by omega) (by omega)
      have i14573 := i5_m_all.out (x := z14550) (i := z14551) (c := z14551.toInt) rfl (by omega) (by omega)
      have k14574 := AI.out (f := m_all) (by assumption) i1_m_all i0_m_all (x := z14550) (i := z14551) (c := z14551.toInt) rfl (by omega) (by omega)
      generalize ef14567 : upd m_all z14551.toNatClampNeg z14550 = f14567 at hP hD i14568 i14569 i14570 i14571 i14572 i14573 k14574
      have hkp : ∀ j : Nat, j < 110 → f14567 j = m_all j := fun j hj => by rw [← ef14567]; exact upd_ne (by show j ≠ Int.toNat _; omega)
      have w14575 : AI f14567 := by assumption
      have w14576 : ∀ j : Nat, j < 110 → f14567 j = m_all j := by first | omega | assumption | rfl
      exact W.vret hx hb hr (fun t ht hW => ⟨⟨((fun k => match k with | 0 => u14549.1 0 | _ => f14567), (fun k => match k with | 0 => u14549.2.1 0 | 1 => u14549.2.1 1 | 2 => u14549.2.1 2 | 3 => u14549.2.1 3 | _ => u14549.2.1 4), (fun _ => 0), (fun _ => fun _ => 0)), rfl, ⟨i14568, i14569, i14570, i14571, i14572, i14573, w14575, w14576⟩, cE.of ht hP hD [0, 1, 2, 3, 4, 5, 6, 7] (by decide) rfl⟩, hS.F ht⟩) hS.2.2 dX7_sendDown_83
    · have c14566 := i_nle (a := z14565.toInt) (b := z14550.toInt) c14566 rfl rfl
      refine lv_aload_n hx hb dX7_sendDown_66 rfl (lv_at hl 2 rfl) ?_
      refine va_get (D := (dC, dI)) (ci := 7) (v := .ref (md 40)) (C := RX7) (T := TX7) (N := 59) hx hb hts hi7 hown hK hP 0 rfl rfl 40 (by decide) (hts _ (ow_m (k := 0) rfl)) (fun _ h9 => h9) rfl dX7_sendDown_67 ?_
      refine lv_iload hx hb dX7_sendDown_70 (lv_at hl 1 rfl) ?_
      refine lv_iload_n hx hb dX7_sendDown_72 rfl (lv_at hl 4 rfl) ?_
      refine lv_iadd hx hb dX7_sendDown_73 ?_
      refine lv_topi (fun z14577 ez14577 => ?_)
      have tz14577 := ti_add (a := z14535.toInt) (b := x2.toInt) ez14577 rfl rfl (by omega) (by omega)
      refine lv_iconst (v := 1) hx hb dX7_sendDown_74 (by decide) ?_
      refine lv_isub hx hb dX7_sendDown_75 ?_
      refine lv_topi (fun z14578 ez14578 => ?_)
      have tz14578 := ti_sub (a := z14577.toInt) (b := 1) ez14578 rfl (by decide) (by omega) (by omega)
      refine va_iald hx hb hK hP 7 1 rfl rfl (vp_i rfl (by omega) (by omega)) dX7_sendDown_76 ?_
      refine lv_topi (fun z14579 ez14579 => ?_)
      refine lv_goto (tgt := 82) hx hb dX7_sendDown_77 (by decide) ?_
      refine va_iast hx hb hK hP hD hS 7 1 rfl rfl (vp_i rfl (by omega) (by omega)) dX7_sendDown_82 (fun H locs hP hD hS => ?_)
      have hP : va_P (dC, dI) vwCl [(hM, .inr (7, [.ref (md 0), .ref (md 1), .int m_taped, .int m_size, .int m_faultKind, .int m_faultPlace, .int m_at, .int m_end, .int m_token, .int m_number, .long m_name, .ref (md 11), .ref (md 12), .ref (md 13), .ref (md 14), .ref (md 15), .ref (md 16), .ref (md 17), .ref (md 18), .ref (md 19), .ref (md 20), .ref (md 21), .ref (md 22), .ref (md 23), .ref (md 24), .ref (md 25), .ref (md 26), .ref (md 27), .ref (md 28), .int m_bank, .int m_rb, .int m_codes, .int m_within, .int m_piled, .int m_unitsInRule, .int (u14549.2.1 0), .int (u14549.2.1 1), .int (u14549.2.1 2), .int (u14549.2.1 3), .int (u14549.2.1 4), .ref (md 40), .ref (md 41), .int m_thoughtSlow, .int m_came, .ref (md 44), .int m_acts, .int m_undone, .ref (md 47), .ref (md 48), .int m_laid, .ref (md 50), .ref (md 51), .ref (md 52), .ref (md 53), .ref (md 54), .int m_seens, .int m_time, .ref (md 57), .ref (md 58)])), (md 18, .inl (cyI, 2, .inl m_told)), (md 20, .inl (cyI, 2, .inl m_ruleFrom)), (md 21, .inl (cyI, 2, .inl m_ruleTo)), (md 24, .inl (cyI, 1120, .inl m_code)), (md 25, .inl (cyI, 1120, .inl m_codeNumber)), (md 28, .inl (cyI, 60, .inl (u14549.1 0))), (md 40, .inl (cyI, 520, .inl (upd m_all z14551.toNatClampNeg z14579)))] H := hP
      have hD : va_D A [(hM, .inr (7, [.ref (md 0), .ref (md 1), .int m_taped, .int m_size, .int m_faultKind, .int m_faultPlace, .int m_at, .int m_end, .int m_token, .int m_number, .long m_name, .ref (md 11), .ref (md 12), .ref (md 13), .ref (md 14), .ref (md 15), .ref (md 16), .ref (md 17), .ref (md 18), .ref (md 19), .ref (md 20), .ref (md 21), .ref (md 22), .ref (md 23), .ref (md 24), .ref (md 25), .ref (md 26), .ref (md 27), .ref (md 28), .int m_bank, .int m_rb, .int m_codes, .int m_within, .int m_piled, .int m_unitsInRule, .int (u14549.2.1 0), .int (u14549.2.1 1), .int (u14549.2.1 2), .int (u14549.2.1 3), .int (u14549.2.1 4), .ref (md 40), .ref (md 41), .int m_thoughtSlow, .int m_came, .ref (md 44), .int m_acts, .int m_undone, .ref (md 47), .ref (md 48), .int m_laid, .ref (md 50), .ref (md 51), .ref (md 52), .ref (md 53), .ref (md 54), .int m_seens, .int m_time, .ref (md 57), .ref (md 58)])), (md 18, .inl (cyI, 2, .inl m_told)), (md 20, .inl (cyI, 2, .inl m_ruleFrom)), (md 21, .inl (cyI, 2, .inl m_ruleTo)), (md 24, .inl (cyI, 1120, .inl m_code)), (md 25, .inl (cyI, 1120, .inl m_codeNumber)), (md 28, .inl (cyI, 60, .inl (u14549.1 0))), (md 40, .inl (cyI, 520, .inl (upd m_all z14551.toNatClampNeg z14579)))] := hD
      have i14581 := i0_m_all.out (x := z14579) (i := z14551) (c := z14551.toInt) rfl (by omega) (by omega)
      have i14582 := i1_m_all.out (x := z14579) (i := z14551) (c := z14551.toInt) rfl (by omega) (by omega)
      have i14583 := i2_m_all.out (x := z14579) (i := z14551) (c := z14551.toInt) rfl (by omega) (by omega)
      have i14584 := i3_m_all.out (x := z14579) (i := z14551) (c := z14551.toInt) rfl (by omega) (by omega)
      have i14585 := i4_m_all.out (x := z14579) (i := z14551) (c := z14551.toInt) rfl (by omega) (by omega)
      have i14586 := i5_m_all.out (x := z14579) (i := z14551) (c := z14551.toInt) rfl (by omega) (by omega)
      have k14587 := AI.out (f := m_all) (by assumption) i1_m_all i0_m_all (x := z14579) (i := z14551) (c := z14551.toInt) rfl (by omega) (by omega)
      generalize ef14580 : upd m_all z14551.toNatClampNeg z14579 = f14580 at hP hD i14581 i14582 i14583 i14584 i14585 i14586 k14587
      have hkp : ∀ j : Nat, j < 110 → f14580 j = m_all j := fun j hj => by rw [← ef14580]; exact upd_ne (by show j ≠ Int.toNat _; omega)
      have w14588 : AI f14580 := by assumption
      have w14589 : ∀ j : Nat, j < 110 → f14580 j = m_all j := by first | omega | assumption | rfl
      exact W.vret hx hb hr (fun t ht hW => ⟨⟨((fun k => match k with | 0 => u14549.1 0 | _ => f14580), (fun k => match k with | 0 => u14549.2.1 0 | 1 => u14549.2.1 1 | 2 => u14549.2.1 2 | 3 => u14549.2.1 3 | _ => u14549.2.1 4), (fun _ => 0), (fun _ => fun _ => 0)), rfl, ⟨i14581, i14582, i14583, i14584, i14585, i14586, w14588, w14589⟩, cE.of ht hP hD [0, 1, 2, 3, 4, 5, 6, 7] (by decide) rfl⟩, hS.F ht⟩) hS.2.2 dX7_sendDown_83
def wo_k_M_sendUp : List Cond := [.fieldLink RX7 76 "ReplicaChainModel" "all" "[I", .methodLink RX7 310 yX7_nodeAt, .instanceMethod yX7_nodeAt, .selects RX7 yX7_nodeAt yX7_nodeAt, .initialized RX7, .methodLink RX7 350 yX7_delayOf, .instanceMethod yX7_delayOf, .selects RX7 yX7_delayOf yX7_delayOf]
def wq_k_M_sendUp : List Cond := .code yX7_sendUp cX7_sendUp 6 none :: (wo_k_M_sendUp ++ (wq_k_M_nodeAt ++ (wq_k_M_delayOf ++ (wsX70 ++ []))))
theorem gd_k_M_sendUp : Gd wq_k_M_sendUp := gd_c (gd_a (gd_o (by decide +kernel)) (gd_a gd_k_M_nodeAt (gd_a gd_k_M_delayOf (gd_a gd_u gd_0))))
abbrev wc_k_M_sendUp (cyB cyI cyJ cyZ cyO : ClassId) (hM : Nat) (md : Nat → Nat) (m_told : Nat → Int32) (m_ruleFrom : Nat → Int32) (m_ruleTo : Nat → Int32) (m_code : Nat → Int32) (m_codeNumber : Nat → Int32) (m_pile : Nat → Int32) (m_all : Nat → Int32) (m_taped : Int32) (m_size : Int32) (m_faultKind : Int32) (m_faultPlace : Int32) (m_at : Int32) (m_end : Int32) (m_token : Int32) (m_number : Int32) (m_bank : Int32) (m_rb : Int32) (m_codes : Int32) (m_within : Int32) (m_piled : Int32) (m_unitsInRule : Int32) (m_askFrom : Int32) (m_askTo : Int32) (m_askWrite : Int32) (m_askUnder : Int32) (m_askBack : Int32) (m_thoughtSlow : Int32) (m_came : Int32) (m_acts : Int32) (m_undone : Int32) (m_laid : Int32) (m_seens : Int32) (m_time : Int32) (m_name : Int64) (x1 : Int32) (x2 : Int32) (x3 : Int32) : va_W := [(hM, .inr (7, [.ref (md 0), .ref (md 1), .int m_taped, .int m_size, .int m_faultKind, .int m_faultPlace, .int m_at, .int m_end, .int m_token, .int m_number, .long m_name, .ref (md 11), .ref (md 12), .ref (md 13), .ref (md 14), .ref (md 15), .ref (md 16), .ref (md 17), .ref (md 18), .ref (md 19), .ref (md 20), .ref (md 21), .ref (md 22), .ref (md 23), .ref (md 24), .ref (md 25), .ref (md 26), .ref (md 27), .ref (md 28), .int m_bank, .int m_rb, .int m_codes, .int m_within, .int m_piled, .int m_unitsInRule, .int m_askFrom, .int m_askTo, .int m_askWrite, .int m_askUnder, .int m_askBack, .ref (md 40), .ref (md 41), .int m_thoughtSlow, .int m_came, .ref (md 44), .int m_acts, .int m_undone, .ref (md 47), .ref (md 48), .int m_laid, .ref (md 50), .ref (md 51), .ref (md 52), .ref (md 53), .ref (md 54), .int m_seens, .int m_time, .ref (md 57), .ref (md 58)])), (md 18, .inl (cyI, 2, .inl m_told)), (md 20, .inl (cyI, 2, .inl m_ruleFrom)), (md 21, .inl (cyI, 2, .inl m_ruleTo)), (md 24, .inl (cyI, 1120, .inl m_code)), (md 25, .inl (cyI, 1120, .inl m_codeNumber)), (md 28, .inl (cyI, 60, .inl m_pile)), (md 40, .inl (cyI, 520, .inl m_all))]
set_option maxHeartbeats 4000000 in
set_option maxRecDepth 100000 in
theorem k_M_sendUp (l : Launch) (dC : Nat → ClassId) (dI : Nat → Nat → Nat) (cyB cyI cyJ cyZ cyO : ClassId) (hM : Nat) (md : Nat → Nat) (m_told : Nat → Int32) (m_ruleFrom : Nat → Int32) (m_ruleTo : Nat → Int32) (m_code : Nat → Int32) (m_codeNumber : Nat → Int32) (m_pile : Nat → Int32) (m_all : Nat → Int32) (m_taped : Int32) (m_size : Int32) (m_faultKind : Int32) (m_faultPlace : Int32) (m_at : Int32) (m_end : Int32) (m_token : Int32) (m_number : Int32) (m_bank : Int32) (m_rb : Int32) (m_codes : Int32) (m_within : Int32) (m_piled : Int32) (m_unitsInRule : Int32) (m_askFrom : Int32) (m_askTo : Int32) (m_askWrite : Int32) (m_askUnder : Int32) (m_askBack : Int32) (m_thoughtSlow : Int32) (m_came : Int32) (m_acts : Int32) (m_undone : Int32) (m_laid : Int32) (m_seens : Int32) (m_time : Int32) (m_name : Int64) (x1 : Int32) (x2 : Int32) (x3 : Int32) (sz : Nat) (l_m_taped : 0 ≤ m_taped.toInt) (u_m_taped : m_taped.toInt ≤ 1600) (l_m_size : 0 ≤ m_size.toInt) (u_m_size : m_size.toInt ≤ 1600) (l_m_bank : 0 ≤ m_bank.toInt) (u_m_bank : m_bank.toInt ≤ 1) (l_m_rb : 0 ≤ m_rb.toInt) (u_m_rb : m_rb.toInt ≤ 1) (l_m_acts : 0 ≤ m_acts.toInt) (u_m_acts : m_acts.toInt ≤ 40) (l_m_undone : 0 ≤ m_undone.toInt) (u_m_undone : m_undone.toInt ≤ 40) (l_m_laid : 0 ≤ m_laid.toInt) (u_m_laid : m_laid.toInt ≤ 6) (l_m_seens : 0 ≤ m_seens.toInt) (u_m_seens : m_seens.toInt ≤ 30) (l_m_time : 0 ≤ m_time.toInt) (u_m_time : m_time.toInt ≤ 100000) (i0_m_all : In2 m_all 0 1 (0) (6)) (i1_m_all : In2 m_all 1 7 (0) (7)) (i2_m_all : In2 m_all 7 15 (0) (40)) (i3_m_all : In2 m_all 15 23 (0) (40)) (i4_m_all : In2 m_all 105 106 (-1) (7)) (i5_m_all : In2 m_all 109 110 (0) (999)) (v0_m_ : AI m_all) (l_x1 : 0 ≤ x1.toInt) (u_x1 : x1.toInt ≤ 4) (l_x2 : 1 ≤ x2.toInt) (u_x2 : x2.toInt ≤ 40) (hCI : CI m_code m_ruleFrom m_ruleTo) : Met l yX7_sendUp wq_k_M_sendUp ({ frames := 3, cells := 0, slots := 0, locals := 70 }) (va_Pc [.ref hM, .int x1, .int x2, .int x3] (cB (dC, dI) (kT cyB cyI cyJ cyZ cyO) (wc_k_M_sendUp cyB cyI cyJ cyZ cyO hM md m_told m_ruleFrom m_ruleTo m_code m_codeNumber m_pile m_all m_taped m_size m_faultKind m_faultPlace m_at m_end m_token m_number m_bank m_rb m_codes m_within m_piled m_unitsInRule m_askFrom m_askTo m_askWrite m_askUnder m_askBack m_thoughtSlow m_came m_acts m_undone m_laid m_seens m_time m_name x1 x2 x3) sz)) (va_Qv (fun (u : ST4) => (In2 (u.1 1) 0 1 (0) (6)) ∧ (In2 (u.1 1) 1 7 (0) (7)) ∧ (In2 (u.1 1) 7 15 (0) (40)) ∧ (In2 (u.1 1) 15 23 (0) (40)) ∧ (In2 (u.1 1) 105 106 (-1) (7)) ∧ (In2 (u.1 1) 109 110 (0) (999)) ∧ (AI (u.1 1)) ∧ (∀ j : Nat, j < 110 → (u.1 1) j = m_all j)) (fun (u : ST4) t => cE (dC, dI) (va_A (wc_k_M_sendUp cyB cyI cyJ cyZ cyO hM md m_told m_ruleFrom m_ruleTo m_code m_codeNumber m_pile m_all m_taped m_size m_faultKind m_faultPlace m_at m_end m_token m_number m_bank m_rb m_codes m_within m_piled m_unitsInRule m_askFrom m_askTo m_askWrite m_askUnder m_askBack m_thoughtSlow m_came m_acts m_undone m_laid m_seens m_time m_name x1 x2 x3) sz) ([(hM, .inr (7, [.ref (md 0), .ref (md 1), .int m_taped, .int m_size, .int m_faultKind, .int m_faultPlace, .int m_at, .int m_end, .int m_token, .int m_number, .long m_name, .ref (md 11), .ref (md 12), .ref (md 13), .ref (md 14), .ref (md 15), .ref (md 16), .ref (md 17), .ref (md 18), .ref (md 19), .ref (md 20), .ref (md 21), .ref (md 22), .ref (md 23), .ref (md 24), .ref (md 25), .ref (md 26), .ref (md 27), .ref (md 28), .int m_bank, .int m_rb, .int m_codes, .int m_within, .int m_piled, .int m_unitsInRule, .int (u.2.1 0), .int (u.2.1 1), .int (u.2.1 2), .int (u.2.1 3), .int (u.2.1 4), .ref (md 40), .ref (md 41), .int m_thoughtSlow, .int m_came, .ref (md 44), .int m_acts, .int m_undone, .ref (md 47), .ref (md 48), .int m_laid, .ref (md 50), .ref (md 51), .ref (md 52), .ref (md 53), .ref (md 54), .int m_seens, .int m_time, .ref (md 57), .ref (md 58)])), (md 18, .inl (cyI, 2, .inl m_told)), (md 20, .inl (cyI, 2, .inl m_ruleFrom)), (md 21, .inl (cyI, 2, .inl m_ruleTo)), (md 24, .inl (cyI, 1120, .inl m_code)), (md 25, .inl (cyI, 1120, .inl m_codeNumber)), (md 28, .inl (cyI, 60, .inl (u.1 0))), (md 40, .inl (cyI, 520, .inl (u.1 1)))]) t.heap) (va_A (wc_k_M_sendUp cyB cyI cyJ cyZ cyO hM md m_told m_ruleFrom m_ruleTo m_code m_codeNumber m_pile m_all m_taped m_size m_faultKind m_faultPlace m_at m_end m_token m_number m_bank m_rb m_codes m_within m_piled m_unitsInRule m_askFrom m_askTo m_askWrite m_askUnder m_askBack m_thoughtSlow m_came m_acts m_undone m_laid m_seens m_time m_name x1 x2 x3) sz)) 0 0 (va_A (wc_k_M_sendUp cyB cyI cyJ cyZ cyO hM md m_told m_ruleFrom m_ruleTo m_code m_codeNumber m_pile m_all m_taped m_size m_faultKind m_faultPlace m_at m_end m_token m_number m_bank m_rb m_codes m_within m_piled m_unitsInRule m_askFrom m_askTo m_askWrite m_askUnder m_askBack m_thoughtSlow m_came m_acts m_undone m_laid m_seens m_time m_name x1 x2 x3) sz) := by
  refine Met.ofW (cc := cX7_sendUp) (maxL := 6) (ret := none) (by decide) rfl ?_
  intro p e s m args below meth c s₁ B hml hv
  obtain ⟨rfl, hsz, hP, hKN, hD0⟩ := hv
  have hx := B.exec
  have hb := B.bytes
  have hr := B.returns
  have hts := atoms_spec (ws := wq_k_M_sendUp) B.pre
  have hown : s.vm.findClass RX7 = some m.cls := findClass_of_methodNamed B.named
  have hlocks := B.notSynchronized
  have hK := hKN.1
  have hfix : CallFix p m c cX7_sendUp 6 s [.ref hM, .int x1, .int x2, .int x3].toArray wq_k_M_sendUp RX7 := ⟨hx, hb, hml, hown, hts⟩
  have hi7 : ∀ w ∈ wsX70, w ∈ wq_k_M_sendUp := (sb_c (sb_r (sb_r sb_l)))
  subst hsz
  have hD := hD0.self (sz := s.heap.size)
  generalize hAe : va_A (wc_k_M_sendUp cyB cyI cyJ cyZ cyO hM md m_told m_ruleFrom m_ruleTo m_code m_codeNumber m_pile m_all m_taped m_size m_faultKind m_faultPlace m_at m_end m_token m_number m_bank m_rb m_codes m_within m_piled m_unitsInRule m_askFrom m_askTo m_askWrite m_askUnder m_askBack m_thoughtSlow m_came m_acts m_undone m_laid m_seens m_time m_name x1 x2 x3) s.heap.size = A at hD ⊢
  have hA : ∀ q : Nat, s.heap.size ≤ q → A q := fun q h => by rw [← hAe]; exact Or.inr h
  have hS : va_S A s.heap s.heap [] := va_S.rf
  have hl := lv_entry ([.ref hM, .int x1, .int x2, .int x3]) (n := 6) (Nat.le_of_ble_eq_true rfl)
  rw [lg_entry_eq]
  generalize (lg_sl ([.ref hM, .int x1, .int x2, .int x3]) ++ List.replicate (6 - (lg_sl ([.ref hM, .int x1, .int x2, .int x3])).length) Slot.unset).toArray = ls at hl ⊢
  have hl : lv_has ls 6 [(0, .ref hM), (1, .int x1), (2, .int x2), (3, .int x3)] := hl
  have ck1 : (1 : Int32).toInt = 1 := by decide
  refine lv_sipush (v := 315) hx hb dX7_sendUp_0 (by decide) ?_
  refine lv_bipush (v := 41) hx hb dX7_sendUp_3 (by decide) ?_
  refine lv_iload_n hx hb dX7_sendUp_5 rfl (lv_at hl 1 rfl) ?_
  refine lv_imul hx hb dX7_sendUp_6 ?_
  refine lv_topi (fun z14690 ez14690 => ?_)
  have tz14690 := ti_mul (a := 41) (b := x1.toInt) ez14690 (by decide) rfl (by omega) (by omega)
  refine lv_iadd hx hb dX7_sendUp_7 ?_
  refine lv_topi (fun z14691 ez14691 => ?_)
  have tz14691 := ti_add (a := 315) (b := z14690.toInt) ez14691 (by decide) rfl (by omega) (by omega)
  refine lv_istore (lv' := [(4, .int z14691), (0, .ref hM), (1, .int x1), (2, .int x2), (3, .int x3)]) hx hb dX7_sendUp_8 hl (by decide) rfl (fun ls hl => ?_)
  refine lv_aload_n hx hb dX7_sendUp_10 rfl (lv_at hl 1 rfl) ?_
  refine va_get (D := (dC, dI)) (ci := 7) (v := .ref (md 40)) (C := RX7) (T := TX7) (N := 59) hx hb hts hi7 hown hK hP 0 rfl rfl 40 (by decide) (hts _ (ow_m (k := 0) rfl)) (fun _ h9 => h9) rfl dX7_sendUp_11 ?_
  refine lv_bipush (v := 108) hx hb dX7_sendUp_14 (by decide) ?_
  refine va_iald hx hb hK hP 7 1 rfl rfl (vp_i (a := 108) (by decide) (by decide) (by decide)) dX7_sendUp_16 ?_
  refine lv_topi (fun z14692 ez14692 => ?_)
  refine lv_aload_n hx hb dX7_sendUp_17 rfl (lv_at hl 1 rfl) ?_
  refine lv_aload_n hx hb dX7_sendUp_18 rfl (lv_at hl 1 rfl) ?_
  refine lv_iload_n hx hb dX7_sendUp_19 rfl (lv_at hl 2 rfl) ?_
  refine lv_iconst (v := 1) hx hb dX7_sendUp_20 (by decide) ?_
  refine lv_iadd hx hb dX7_sendUp_21 ?_
  refine lv_topi (fun z14693 ez14693 => ?_)
  have tz14693 := ti_add (a := x1.toInt) (b := 1) ez14693 rfl (by decide) (by omega) (by omega)
  refine gf_i (wr := [(md 18, .inl (cyI, 2, .inl m_told)), (md 20, .inl (cyI, 2, .inl m_ruleFrom)), (md 21, .inl (cyI, 2, .inl m_ruleTo)), (md 24, .inl (cyI, 1120, .inl m_code)), (md 25, .inl (cyI, 1120, .inl m_codeNumber)), (md 28, .inl (cyI, 60, .inl m_pile))]) (va_runV (As := [.int z14693]) (rest := [.ref hM, .int z14692]) hfix (k_M_nodeAt l dC dI cyB cyI cyJ cyZ cyO hM md m_all m_taped m_size m_faultKind m_faultPlace m_at m_end m_token m_number m_bank m_rb m_codes m_within m_piled m_unitsInRule m_askFrom m_askTo m_askWrite m_askUnder m_askBack m_thoughtSlow m_came m_acts m_undone m_laid m_seens m_time m_name z14693 _ (by first | omega | assumption) (by first | omega | assumption) (by first | omega | assumption) (by first | omega | assumption) (by first | omega | assumption) (by first | omega | assumption) (by first | omega | assumption) (by first | omega | assumption) (by first | omega | assumption) (by first | omega | assumption) (by first | omega | assumption) (by first | omega | assumption) (by first | omega | assumption) (by first | omega | assumption) (by first | omega | assumption) (by first | omega | assumption) (by first | omega | assumption) (by first | omega | assumption) i0_m_all i1_m_all i2_m_all i3_m_all i4_m_all i5_m_all (by first | omega | assumption) (by first | omega | assumption)) (cwV 1 hts (gi_V (ow_m (k := 1) rfl) (ow_m (k := 2) rfl) (ow_m (k := 3) rfl) (ow_m (k := 4) rfl) (sb_c sb_l) gd_k_M_nodeAt) rfl rfl rfl (by decide +kernel) ⟨Nat.le_of_ble_eq_true rfl, Nat.le_of_ble_eq_true rfl⟩) (g_preV hKN hP hD [0, 7] rfl (by decide) 0 7 rfl rfl) rfl rfl hl.1 rfl (lv_room (Nat.le_of_ble_eq_true rfl)) dX7_sendUp_22 ⟨Nat.le_of_ble_eq_true rfl, Nat.le_of_ble_eq_true rfl⟩) hP hD hS hA [0, 7] [1, 2, 3, 4, 5, 6] rfl rfl (by decide) (by decide) (fun r14694 u14695 H locs qu14695 hP hD hS => ?_)
  obtain ⟨b14696, b14697, b14698⟩ := qu14695
  have hP : va_P (dC, dI) vwCl [(md 18, .inl (cyI, 2, .inl m_told)), (md 20, .inl (cyI, 2, .inl m_ruleFrom)), (md 21, .inl (cyI, 2, .inl m_ruleTo)), (md 24, .inl (cyI, 1120, .inl m_code)), (md 25, .inl (cyI, 1120, .inl m_codeNumber)), (md 28, .inl (cyI, 60, .inl m_pile)), (hM, .inr (7, [.ref (md 0), .ref (md 1), .int m_taped, .int m_size, .int m_faultKind, .int m_faultPlace, .int m_at, .int m_end, .int m_token, .int m_number, .long m_name, .ref (md 11), .ref (md 12), .ref (md 13), .ref (md 14), .ref (md 15), .ref (md 16), .ref (md 17), .ref (md 18), .ref (md 19), .ref (md 20), .ref (md 21), .ref (md 22), .ref (md 23), .ref (md 24), .ref (md 25), .ref (md 26), .ref (md 27), .ref (md 28), .int m_bank, .int m_rb, .int m_codes, .int m_within, .int m_piled, .int m_unitsInRule, .int m_askFrom, .int m_askTo, .int m_askWrite, .int m_askUnder, .int m_askBack, .ref (md 40), .ref (md 41), .int m_thoughtSlow, .int m_came, .ref (md 44), .int m_acts, .int m_undone, .ref (md 47), .ref (md 48), .int m_laid, .ref (md 50), .ref (md 51), .ref (md 52), .ref (md 53), .ref (md 54), .int m_seens, .int m_time, .ref (md 57), .ref (md 58)])), (md 40, .inl (cyI, 520, .inl m_all))] H := hP
  have hD : va_D A [(md 18, .inl (cyI, 2, .inl m_told)), (md 20, .inl (cyI, 2, .inl m_ruleFrom)), (md 21, .inl (cyI, 2, .inl m_ruleTo)), (md 24, .inl (cyI, 1120, .inl m_code)), (md 25, .inl (cyI, 1120, .inl m_codeNumber)), (md 28, .inl (cyI, 60, .inl m_pile)), (hM, .inr (7, [.ref (md 0), .ref (md 1), .int m_taped, .int m_size, .int m_faultKind, .int m_faultPlace, .int m_at, .int m_end, .int m_token, .int m_number, .long m_name, .ref (md 11), .ref (md 12), .ref (md 13), .ref (md 14), .ref (md 15), .ref (md 16), .ref (md 17), .ref (md 18), .ref (md 19), .ref (md 20), .ref (md 21), .ref (md 22), .ref (md 23), .ref (md 24), .ref (md 25), .ref (md 26), .ref (md 27), .ref (md 28), .int m_bank, .int m_rb, .int m_codes, .int m_within, .int m_piled, .int m_unitsInRule, .int m_askFrom, .int m_askTo, .int m_askWrite, .int m_askUnder, .int m_askBack, .ref (md 40), .ref (md 41), .int m_thoughtSlow, .int m_came, .ref (md 44), .int m_acts, .int m_undone, .ref (md 47), .ref (md 48), .int m_laid, .ref (md 50), .ref (md 51), .ref (md 52), .ref (md 53), .ref (md 54), .int m_seens, .int m_time, .ref (md 57), .ref (md 58)])), (md 40, .inl (cyI, 520, .inl m_all))] := hD
  refine lv_aload_n hx hb dX7_sendUp_25 rfl (lv_at hl 1 rfl) ?_
  refine lv_iload_n hx hb dX7_sendUp_26 rfl (lv_at hl 2 rfl) ?_
  refine gf_i (wr := [(md 18, .inl (cyI, 2, .inl m_told)), (md 20, .inl (cyI, 2, .inl m_ruleFrom)), (md 21, .inl (cyI, 2, .inl m_ruleTo)), (md 24, .inl (cyI, 1120, .inl m_code)), (md 25, .inl (cyI, 1120, .inl m_codeNumber)), (md 28, .inl (cyI, 60, .inl m_pile))]) (va_runV (As := [.int x1]) (rest := [.int r14694, .ref hM, .int z14692]) hfix (k_M_nodeAt l dC dI cyB cyI cyJ cyZ cyO hM md m_all m_taped m_size m_faultKind m_faultPlace m_at m_end m_token m_number m_bank m_rb m_codes m_within m_piled m_unitsInRule m_askFrom m_askTo m_askWrite m_askUnder m_askBack m_thoughtSlow m_came m_acts m_undone m_laid m_seens m_time m_name x1 _ (by first | omega | assumption) (by first | omega | assumption) (by first | omega | assumption) (by first | omega | assumption) (by first | omega | assumption) (by first | omega | assumption) (by first | omega | assumption) (by first | omega | assumption) (by first | omega | assumption) (by first | omega | assumption) (by first | omega | assumption) (by first | omega | assumption) (by first | omega | assumption) (by first | omega | assumption) (by first | omega | assumption) (by first | omega | assumption) (by first | omega | assumption) (by first | omega | assumption) i0_m_all i1_m_all i2_m_all i3_m_all i4_m_all i5_m_all (by first | omega | assumption) (by first | omega | assumption)) (cwV 1 hts (gi_V (ow_m (k := 1) rfl) (ow_m (k := 2) rfl) (ow_m (k := 3) rfl) (ow_m (k := 4) rfl) (sb_c sb_l) gd_k_M_nodeAt) rfl rfl rfl (by decide +kernel) ⟨Nat.le_of_ble_eq_true rfl, Nat.le_of_ble_eq_true rfl⟩) (g_preV hKN hP hD [6, 7] rfl (by decide) 0 7 rfl rfl) rfl rfl hl.1 rfl (lv_room (Nat.le_of_ble_eq_true rfl)) dX7_sendUp_27 ⟨Nat.le_of_ble_eq_true rfl, Nat.le_of_ble_eq_true rfl⟩) hP hD hS hA [6, 7] [0, 1, 2, 3, 4, 5] rfl rfl (by decide) (by decide) (fun r14699 u14700 H locs qu14700 hP hD hS => ?_)
  obtain ⟨b14701, b14702, b14703⟩ := qu14700
  have hP : va_P (dC, dI) vwCl [(md 18, .inl (cyI, 2, .inl m_told)), (md 20, .inl (cyI, 2, .inl m_ruleFrom)), (md 21, .inl (cyI, 2, .inl m_ruleTo)), (md 24, .inl (cyI, 1120, .inl m_code)), (md 25, .inl (cyI, 1120, .inl m_codeNumber)), (md 28, .inl (cyI, 60, .inl m_pile)), (hM, .inr (7, [.ref (md 0), .ref (md 1), .int m_taped, .int m_size, .int m_faultKind, .int m_faultPlace, .int m_at, .int m_end, .int m_token, .int m_number, .long m_name, .ref (md 11), .ref (md 12), .ref (md 13), .ref (md 14), .ref (md 15), .ref (md 16), .ref (md 17), .ref (md 18), .ref (md 19), .ref (md 20), .ref (md 21), .ref (md 22), .ref (md 23), .ref (md 24), .ref (md 25), .ref (md 26), .ref (md 27), .ref (md 28), .int m_bank, .int m_rb, .int m_codes, .int m_within, .int m_piled, .int m_unitsInRule, .int m_askFrom, .int m_askTo, .int m_askWrite, .int m_askUnder, .int m_askBack, .ref (md 40), .ref (md 41), .int m_thoughtSlow, .int m_came, .ref (md 44), .int m_acts, .int m_undone, .ref (md 47), .ref (md 48), .int m_laid, .ref (md 50), .ref (md 51), .ref (md 52), .ref (md 53), .ref (md 54), .int m_seens, .int m_time, .ref (md 57), .ref (md 58)])), (md 40, .inl (cyI, 520, .inl m_all))] H := hP
  have hD : va_D A [(md 18, .inl (cyI, 2, .inl m_told)), (md 20, .inl (cyI, 2, .inl m_ruleFrom)), (md 21, .inl (cyI, 2, .inl m_ruleTo)), (md 24, .inl (cyI, 1120, .inl m_code)), (md 25, .inl (cyI, 1120, .inl m_codeNumber)), (md 28, .inl (cyI, 60, .inl m_pile)), (hM, .inr (7, [.ref (md 0), .ref (md 1), .int m_taped, .int m_size, .int m_faultKind, .int m_faultPlace, .int m_at, .int m_end, .int m_token, .int m_number, .long m_name, .ref (md 11), .ref (md 12), .ref (md 13), .ref (md 14), .ref (md 15), .ref (md 16), .ref (md 17), .ref (md 18), .ref (md 19), .ref (md 20), .ref (md 21), .ref (md 22), .ref (md 23), .ref (md 24), .ref (md 25), .ref (md 26), .ref (md 27), .ref (md 28), .int m_bank, .int m_rb, .int m_codes, .int m_within, .int m_piled, .int m_unitsInRule, .int m_askFrom, .int m_askTo, .int m_askWrite, .int m_askUnder, .int m_askBack, .ref (md 40), .ref (md 41), .int m_thoughtSlow, .int m_came, .ref (md 44), .int m_acts, .int m_undone, .ref (md 47), .ref (md 48), .int m_laid, .ref (md 50), .ref (md 51), .ref (md 52), .ref (md 53), .ref (md 54), .int m_seens, .int m_time, .ref (md 57), .ref (md 58)])), (md 40, .inl (cyI, 520, .inl m_all))] := hD
  refine lv_iload_n hx hb dX7_sendUp_30 rfl (lv_at hl 3 rfl) ?_
  refine lv_iload_n hx hb dX7_sendUp_31 rfl (lv_at hl 4 rfl) ?_
  refine lv_iconst (v := 1) hx hb dX7_sendUp_32 (by decide) ?_
  refine gf_i (wr := []) (va_runV (As := [.int r14694, .int r14699, .int x2, .int x3, .int 1]) (rest := [.int z14692]) hfix (k_M_delayOf l dC dI cyB cyI cyJ cyZ cyO hM md m_told m_ruleFrom m_ruleTo m_code m_codeNumber m_pile m_all m_taped m_size m_faultKind m_faultPlace m_at m_end m_token m_number m_bank m_rb m_codes m_within m_piled m_unitsInRule m_askFrom m_askTo m_askWrite m_askUnder m_askBack m_thoughtSlow m_came m_acts m_undone m_laid m_seens m_time m_name r14694 r14699 x2 x3 (1 : Int32) _ (by first | omega | assumption) (by first | omega | assumption) (by first | omega | assumption) (by first | omega | assumption) (by first | omega | assumption) (by first | omega | assumption) (by first | omega | assumption) (by first | omega | assumption) (by first | omega | assumption) (by first | omega | assumption) (by first | omega | assumption) (by first | omega | assumption) (by first | omega | assumption) (by first | omega | assumption) (by first | omega | assumption) (by first | omega | assumption) (by first | omega | assumption) (by first | omega | assumption) i0_m_all i1_m_all i2_m_all i3_m_all i4_m_all i5_m_all (by first | omega | assumption)) (cwV 5 hts (gi_V (ow_m (k := 5) rfl) (ow_m (k := 6) rfl) (ow_m (k := 7) rfl) (ow_m (k := 4) rfl) (sb_c (sb_r sb_l)) gd_k_M_delayOf) rfl rfl rfl (by decide +kernel) ⟨Nat.le_of_ble_eq_true rfl, Nat.le_of_ble_eq_true rfl⟩) (g_preV hKN hP hD [6, 0, 1, 2, 3, 4, 5, 7] rfl (by decide) 0 7 rfl rfl) rfl rfl hl.1 rfl (lv_room (Nat.le_of_ble_eq_true rfl)) dX7_sendUp_33 ⟨Nat.le_of_ble_eq_true rfl, Nat.le_of_ble_eq_true rfl⟩) hP hD hS hA [6, 0, 1, 2, 3, 4, 5, 7] [] rfl rfl (by decide) (by decide) (fun r14704 u14705 H locs qu14705 hP hD hS => ?_)
  have hP : va_P (dC, dI) vwCl [(hM, .inr (7, [.ref (md 0), .ref (md 1), .int m_taped, .int m_size, .int m_faultKind, .int m_faultPlace, .int m_at, .int m_end, .int m_token, .int m_number, .long m_name, .ref (md 11), .ref (md 12), .ref (md 13), .ref (md 14), .ref (md 15), .ref (md 16), .ref (md 17), .ref (md 18), .ref (md 19), .ref (md 20), .ref (md 21), .ref (md 22), .ref (md 23), .ref (md 24), .ref (md 25), .ref (md 26), .ref (md 27), .ref (md 28), .int m_bank, .int m_rb, .int m_codes, .int m_within, .int m_piled, .int m_unitsInRule, .int (u14705.2.1 0), .int (u14705.2.1 1), .int (u14705.2.1 2), .int (u14705.2.1 3), .int (u14705.2.1 4), .ref (md 40), .ref (md 41), .int m_thoughtSlow, .int m_came, .ref (md 44), .int m_acts, .int m_undone, .ref (md 47), .ref (md 48), .int m_laid, .ref (md 50), .ref (md 51), .ref (md 52), .ref (md 53), .ref (md 54), .int m_seens, .int m_time, .ref (md 57), .ref (md 58)])), (md 18, .inl (cyI, 2, .inl m_told)), (md 20, .inl (cyI, 2, .inl m_ruleFrom)), (md 21, .inl (cyI, 2, .inl m_ruleTo)), (md 24, .inl (cyI, 1120, .inl m_code)), (md 25, .inl (cyI, 1120, .inl m_codeNumber)), (md 28, .inl (cyI, 60, .inl (u14705.1 0))), (md 40, .inl (cyI, 520, .inl m_all))] H := hP
  have hD : va_D A [(hM, .inr (7, [.ref (md 0), .ref (md 1), .int m_taped, .int m_size, .int m_faultKind, .int m_faultPlace, .int m_at, .int m_end, .int m_token, .int m_number, .long m_name, .ref (md 11), .ref (md 12), .ref (md 13), .ref (md 14), .ref (md 15), .ref (md 16), .ref (md 17), .ref (md 18), .ref (md 19), .ref (md 20), .ref (md 21), .ref (md 22), .ref (md 23), .ref (md 24), .ref (md 25), .ref (md 26), .ref (md 27), .ref (md 28), .int m_bank, .int m_rb, .int m_codes, .int m_within, .int m_piled, .int m_unitsInRule, .int (u14705.2.1 0), .int (u14705.2.1 1), .int (u14705.2.1 2), .int (u14705.2.1 3), .int (u14705.2.1 4), .ref (md 40), .ref (md 41), .int m_thoughtSlow, .int m_came, .ref (md 44), .int m_acts, .int m_undone, .ref (md 47), .ref (md 48), .int m_laid, .ref (md 50), .ref (md 51), .ref (md 52), .ref (md 53), .ref (md 54), .int m_seens, .int m_time, .ref (md 57), .ref (md 58)])), (md 18, .inl (cyI, 2, .inl m_told)), (md 20, .inl (cyI, 2, .inl m_ruleFrom)), (md 21, .inl (cyI, 2, .inl m_ruleTo)), (md 24, .inl (cyI, 1120, .inl m_code)), (md 25, .inl (cyI, 1120, .inl m_codeNumber)), (md 28, .inl (cyI, 60, .inl (u14705.1 0))), (md 40, .inl (cyI, 520, .inl m_all))] := hD
  refine lv_iadd hx hb dX7_sendUp_36 ?_
  refine lv_topi (fun z14706 ez14706 => ?_)
  refine lv_istore (lv' := [(5, .int z14706), (4, .int z14691), (0, .ref hM), (1, .int x1), (2, .int x2), (3, .int x3)]) hx hb dX7_sendUp_37 hl (by decide) rfl (fun ls hl => ?_)
  refine lv_aload_n hx hb dX7_sendUp_39 rfl (lv_at hl 2 rfl) ?_
  refine va_get (D := (dC, dI)) (ci := 7) (v := .ref (md 40)) (C := RX7) (T := TX7) (N := 59) hx hb hts hi7 hown hK hP 0 rfl rfl 40 (by decide) (hts _ (ow_m (k := 0) rfl)) (fun _ h9 => h9) rfl dX7_sendUp_40 ?_
  refine lv_iload hx hb dX7_sendUp_43 (lv_at hl 1 rfl) ?_
  refine lv_iload_n hx hb dX7_sendUp_45 rfl (lv_at hl 4 rfl) ?_
  refine lv_iadd hx hb dX7_sendUp_46 ?_
  refine lv_topi (fun z14707 ez14707 => ?_)
  have tz14707 := ti_add (a := z14691.toInt) (b := x2.toInt) ez14707 rfl rfl (by omega) (by omega)
  refine lv_iload_n hx hb dX7_sendUp_47 rfl (lv_at hl 5 rfl) ?_
  refine lv_if_le (tgt := 81) hx hb dX7_sendUp_48 (by decide) (fun c14708 => ?_) (fun c14708 => ?_)
  · have c14708 := i_le (a := x3.toInt) (b := 0) c14708 rfl (by decide)
    refine lv_iload hx hb dX7_sendUp_81 (lv_at hl 0 rfl) ?_
    refine va_iast hx hb hK hP hD hS 7 1 rfl rfl (vp_i rfl (by omega) (by omega)) dX7_sendUp_83 (fun H locs hP hD hS => ?_)
    have hP : va_P (dC, dI) vwCl [(hM, .inr (7, [.ref (md 0), .ref (md 1), .int m_taped, .int m_size, .int m_faultKind, .int m_faultPlace, .int m_at, .int m_end, .int m_token, .int m_number, .long m_name, .ref (md 11), .ref (md 12), .ref (md 13), .ref (md 14), .ref (md 15), .ref (md 16), .ref (md 17), .ref (md 18), .ref (md 19), .ref (md 20), .ref (md 21), .ref (md 22), .ref (md 23), .ref (md 24), .ref (md 25), .ref (md 26), .ref (md 27), .ref (md 28), .int m_bank, .int m_rb, .int m_codes, .int m_within, .int m_piled, .int m_unitsInRule, .int (u14705.2.1 0), .int (u14705.2.1 1), .int (u14705.2.1 2), .int (u14705.2.1 3), .int (u14705.2.1 4), .ref (md 40), .ref (md 41), .int m_thoughtSlow, .int m_came, .ref (md 44), .int m_acts, .int m_undone, .ref (md 47), .ref (md 48), .int m_laid, .ref (md 50), .ref (md 51), .ref (md 52), .ref (md 53), .ref (md 54), .int m_seens, .int m_time, .ref (md 57), .ref (md 58)])), (md 18, .inl (cyI, 2, .inl m_told)), (md 20, .inl (cyI, 2, .inl m_ruleFrom)), (md 21, .inl (cyI, 2, .inl m_ruleTo)), (md 24, .inl (cyI, 1120, .inl m_code)), (md 25, .inl (cyI, 1120, .inl m_codeNumber)), (md 28, .inl (cyI, 60, .inl (u14705.1 0))), (md 40, .inl (cyI, 520, .inl (upd m_all z14707.toNatClampNeg z14706)))] H := hP
    have hD : va_D A [(hM, .inr (7, [.ref (md 0), .ref (md 1), .int m_taped, .int m_size, .int m_faultKind, .int m_faultPlace, .int m_at, .int m_end, .int m_token, .int m_number, .long m_name, .ref (md 11), .ref (md 12), .ref (md 13), .ref (md 14), .ref (md 15), .ref (md 16), .ref (md 17), .ref (md 18), .ref (md 19), .ref (md 20), .ref (md 21), .ref (md 22), .ref (md 23), .ref (md 24), .ref (md 25), .ref (md 26), .ref (md 27), .ref (md 28), .int m_bank, .int m_rb, .int m_codes, .int m_within, .int m_piled, .int m_unitsInRule, .int (u14705.2.1 0), .int (u14705.2.1 1), .int (u14705.2.1 2), .int (u14705.2.1 3), .int (u14705.2.1 4), .ref (md 40), .ref (md 41), .int m_thoughtSlow, .int m_came, .ref (md 44), .int m_acts, .int m_undone, .ref (md 47), .ref (md 48), .int m_laid, .ref (md 50), .ref (md 51), .ref (md 52), .ref (md 53), .ref (md 54), .int m_seens, .int m_time, .ref (md 57), .ref (md 58)])), (md 18, .inl (cyI, 2, .inl m_told)), (md 20, .inl (cyI, 2, .inl m_ruleFrom)), (md 21, .inl (cyI, 2, .inl m_ruleTo)), (md 24, .inl (cyI, 1120, .inl m_code)), (md 25, .inl (cyI, 1120, .inl m_codeNumber)), (md 28, .inl (cyI, 60, .inl (u14705.1 0))), (md 40, .inl (cyI, 520, .inl (upd m_all z14707.toNatClampNeg z14706)))] := hD
    have i14710 := i0_m_all.out (x := z14706) (i := z14707) (c := z14707.toInt) rfl (by omega) (by omega)
    have i14711 := i1_m_all.out (x := z14706) (i := z14707) (c := z14707.toInt) rfl (by omega) (by omega)
    have i14712 := i2_m_all.out (x := z14706) (i := z14707) (c := z14707.toInt) rfl (by omega) (by omega)
    have i14713 := i3_m_all.out (x := z14706) (i := z14707) (c := z14707.toInt) rfl (by omega) (by omega)
    have i14714 := i4_m_all.out (x := z14706) (i := z14707) (c := z14707.toInt) rfl (by omega) (by omega)
    have i14715 := i5_m_all.out (x := z14706) (i := z14707) (c := z14707.toInt) rfl (by omega) (by omega)
    have k14716 := AI.out (f := m_all) (by assumption) i1_m_all i0_m_all (x := z14706) (i := z14707) (c := z14707.toInt) rfl (by omega) (by omega)
    generalize ef14709 : upd m_all z14707.toNatClampNeg z14706 = f14709 at hP hD i14710 i14711 i14712 i14713 i14714 i14715 k14716
    have hkp : ∀ j : Nat, j < 110 → f14709 j = m_all j := fun j hj => by rw [← ef14709]; exact upd_ne (by show j ≠ Int.toNat _; omega)
    have w14717 : AI f14709 := by assumption
    have w14718 : ∀ j : Nat, j < 110 → f14709 j = m_all j := by first | omega | assumption | rfl
    exact W.vret hx hb hr (fun t ht hW => ⟨⟨((fun k => match k with | 0 => u14705.1 0 | _ => f14709), (fun k => match k with | 0 => u14705.2.1 0 | 1 => u14705.2.1 1 | 2 => u14705.2.1 2 | 3 => u14705.2.1 3 | _ => u14705.2.1 4), (fun _ => 0), (fun _ => fun _ => 0)), rfl, ⟨i14710, i14711, i14712, i14713, i14714, i14715, w14717, w14718⟩, cE.of ht hP hD [0, 1, 2, 3, 4, 5, 6, 7] (by decide) rfl⟩, hS.F ht⟩) hS.2.2 dX7_sendUp_84
  · have c14708 := i_nle (a := x3.toInt) (b := 0) c14708 rfl (by decide)
    refine lv_aload_n hx hb dX7_sendUp_51 rfl (lv_at hl 2 rfl) ?_
    refine va_get (D := (dC, dI)) (ci := 7) (v := .ref (md 40)) (C := RX7) (T := TX7) (N := 59) hx hb hts hi7 hown hK hP 0 rfl rfl 40 (by decide) (hts _ (ow_m (k := 0) rfl)) (fun _ h9 => h9) rfl dX7_sendUp_52 ?_
    refine lv_iload hx hb dX7_sendUp_55 (lv_at hl 1 rfl) ?_
    refine lv_iload_n hx hb dX7_sendUp_57 rfl (lv_at hl 4 rfl) ?_
    refine lv_iadd hx hb dX7_sendUp_58 ?_
    refine lv_topi (fun z14719 ez14719 => ?_)
    have tz14719 := ti_add (a := z14691.toInt) (b := x2.toInt) ez14719 rfl rfl (by omega) (by omega)
    refine lv_iconst (v := 1) hx hb dX7_sendUp_59 (by decide) ?_
    refine lv_isub hx hb dX7_sendUp_60 ?_
    refine lv_topi (fun z14720 ez14720 => ?_)
    have tz14720 := ti_sub (a := z14719.toInt) (b := 1) ez14720 rfl (by decide) (by omega) (by omega)
    refine va_iald hx hb hK hP 7 1 rfl rfl (vp_i rfl (by omega) (by omega)) dX7_sendUp_61 ?_
    refine lv_topi (fun z14721 ez14721 => ?_)
    refine lv_iload hx hb dX7_sendUp_62 (lv_at hl 0 rfl) ?_
    refine lv_icmp_le (tgt := 81) hx hb dX7_sendUp_64 (by decide) (fun c14722 => ?_) (fun c14722 => ?_)
    · have c14722 := i_le (a := z14721.toInt) (b := z14706.toInt) c14722 rfl rfl
      refine lv_iload hx hb dX7_sendUp_81 (lv_at hl 0 rfl) ?_
      refine va_iast hx hb hK hP hD hS 7 1 rfl rfl (vp_i rfl (by omega) (by omega)) dX7_sendUp_83 (fun H locs hP hD hS => ?_)
      have hP : va_P (dC, dI) vwCl [(hM, .inr (7, [.ref (md 0), .ref (md 1), .int m_taped, .int m_size, .int m_faultKind, .int m_faultPlace, .int m_at, .int m_end, .int m_token, .int m_number, .long m_name, .ref (md 11), .ref (md 12), .ref (md 13), .ref (md 14), .ref (md 15), .ref (md 16), .ref (md 17), .ref (md 18), .ref (md 19), .ref (md 20), .ref (md 21), .ref (md 22), .ref (md 23), .ref (md 24), .ref (md 25), .ref (md 26), .ref (md 27), .ref (md 28), .int m_bank, .int m_rb, .int m_codes, .int m_within, .int m_piled, .int m_unitsInRule, .int (u14705.2.1 0), .int (u14705.2.1 1), .int (u14705.2.1 2), .int (u14705.2.1 3), .int (u14705.2.1 4), .ref (md 40), .ref (md 41), .int m_thoughtSlow, .int m_came, .ref (md 44), .int m_acts, .int m_undone, .ref (md 47), .ref (md 48), .int m_laid, .ref (md 50), .ref (md 51), .ref (md 52), .ref (md 53), .ref (md 54), .int m_seens, .int m_time, .ref (md 57), .ref (md 58)])), (md 18, .inl (cyI, 2, .inl m_told)), (md 20, .inl (cyI, 2, .inl m_ruleFrom)), (md 21, .inl (cyI, 2, .inl m_ruleTo)), (md 24, .inl (cyI, 1120, .inl m_code)), (md 25, .inl (cyI, 1120, .inl m_codeNumber)), (md 28, .inl (cyI, 60, .inl (u14705.1 0))), (md 40, .inl (cyI, 520, .inl (upd m_all z14707.toNatClampNeg z14706)))] H := hP
      have hD : va_D A [(hM, .inr (7, [.ref (md 0), .ref (md 1), .int m_taped, .int m_size, .int m_faultKind, .int m_faultPlace, .int m_at, .int m_end, .int m_token, .int m_number, .long m_name, .ref (md 11), .ref (md 12), .ref (md 13), .ref (md 14), .ref (md 15), .ref (md 16), .ref (md 17), .ref (md 18), .ref (md 19), .ref (md 20), .ref (md 21), .ref (md 22), .ref (md 23), .ref (md 24), .ref (md 25), .ref (md 26), .ref (md 27), .ref (md 28), .int m_bank, .int m_rb, .int m_codes, .int m_within, .int m_piled, .int m_unitsInRule, .int (u14705.2.1 0), .int (u14705.2.1 1), .int (u14705.2.1 2), .int (u14705.2.1 3), .int (u14705.2.1 4), .ref (md 40), .ref (md 41), .int m_thoughtSlow, .int m_came, .ref (md 44), .int m_acts, .int m_undone, .ref (md 47), .ref (md 48), .int m_laid, .ref (md 50), .ref (md 51), .ref (md 52), .ref (md 53), .ref (md 54), .int m_seens, .int m_time, .ref (md 57), .ref (md 58)])), (md 18, .inl (cyI, 2, .inl m_told)), (md 20, .inl (cyI, 2, .inl m_ruleFrom)), (md 21, .inl (cyI, 2, .inl m_ruleTo)), (md 24, .inl (cyI, 1120, .inl m_code)), (md 25, .inl (cyI, 1120, .inl m_codeNumber)), (md 28, .inl (cyI, 60, .inl (u14705.1 0))), (md 40, .inl (cyI, 520, .inl (upd m_all z14707.toNatClampNeg z14706)))] := hD
      have i14724 := i0_m_all.out (x := z14706) (i := z14707) (c := z14707.toInt) rfl (by omega) (by omega)
      have i14725 := i1_m_all.out (x := z14706) (i := z14707) (c := z14707.toInt) rfl (by omega) (by omega)
      have i14726 := i2_m_all.out (x := z14706) (i := z14707) (c := z14707.toInt) rfl (by omega) (by omega)
      have i14727 := i3_m_all.out (x := z14706) (i := z14707) (c := z14707.toInt) rfl (by omega) (by omega)
      have i14728 := i4_m_all.out (x := z14706) (i := z14707) (c := z14707.toInt) rfl (by omega) (by omega)
      have i14729 := i5_m_all.out (x := z14706) (i := z14707) (c := z14707.toInt) rfl (by omega) (by omega)
      have k14730 := AI.out (f := m_all) (by assumption) i1_m_all i0_m_all (x := z14706) (i := z14707) (c := z14707.toInt) rfl (by omega) (by omega)
      generalize ef14723 : upd m_all z14707.toNatClampNeg z14706 = f14723 at hP hD i14724 i14725 i14726 i14727 i14728 i14729 k14730
      have hkp : ∀ j : Nat, j < 110 → f14723 j = m_all j := fun j hj => by rw [← ef14723]; exact upd_ne (by show j ≠ Int.toNat _; omega)
      have w14731 : AI f14723 := by assumption
      have w14732 : ∀ j : Nat, j < 110 → f14723 j = m_all j := by first | omega | assumption | rfl
      exact W.vret hx hb hr (fun t ht hW => ⟨⟨((fun k => match k with | 0 => u14705.1 0 | _ => f14723), (fun k => match k with | 0 => u14705.2.1 0 | 1 => u14705.2.1 1 | 2 => u14705.2.1 2 | 3 => u14705.2.1 3 | _ => u14705.2.1 4), (fun _ => 0), (fun _ => fun _ => 0)), rfl, ⟨i14724, i14725, i14726, i14727, i14728, i14729, w14731, w14732⟩, cE.of ht hP hD [0, 1, 2, 3, 4, 5, 6, 7] (by decide) rfl⟩, hS.F ht⟩) hS.2.2 dX7_sendUp_84
    · have c14722 := i_nle (a := z14721.toInt) (b := z14706.toInt) c14722 rfl rfl
      refine lv_aload_n hx hb dX7_sendUp_67 rfl (lv_at hl 2 rfl) ?_
      refine va_get (D := (dC, dI)) (ci := 7) (v := .ref (md 40)) (C := RX7) (T := TX7) (N := 59) hx hb hts hi7 hown hK hP 0 rfl rfl 40 (by decide) (hts _ (ow_m (k := 0) rfl)) (fun _ h9 => h9) rfl dX7_sendUp_68 ?_
      refine lv_iload hx hb dX7_sendUp_71 (lv_at hl 1 rfl) ?_
      refine lv_iload_n hx hb dX7_sendUp_73 rfl (lv_at hl 4 rfl) ?_
      refine lv_iadd hx hb dX7_sendUp_74 ?_
      refine lv_topi (fun z14733 ez14733 => ?_)
      have tz14733 := ti_add (a := z14691.toInt) (b := x2.toInt) ez14733 rfl rfl (by omega) (by omega)
      refine lv_iconst (v := 1) hx hb dX7_sendUp_75 (by decide) ?_
      refine lv_isub hx hb dX7_sendUp_76 ?_
      refine lv_topi (fun z14734 ez14734 => ?_)
      have tz14734 := ti_sub (a := z14733.toInt) (b := 1) ez14734 rfl (by decide) (by omega) (by omega)
      refine va_iald hx hb hK hP 7 1 rfl rfl (vp_i rfl (by omega) (by omega)) dX7_sendUp_77 ?_
      refine lv_topi (fun z14735 ez14735 => ?_)
      refine lv_goto (tgt := 83) hx hb dX7_sendUp_78 (by decide) ?_
      refine va_iast hx hb hK hP hD hS 7 1 rfl rfl (vp_i rfl (by omega) (by omega)) dX7_sendUp_83 (fun H locs hP hD hS => ?_)
      have hP : va_P (dC, dI) vwCl [(hM, .inr (7, [.ref (md 0), .ref (md 1), .int m_taped, .int m_size, .int m_faultKind, .int m_faultPlace, .int m_at, .int m_end, .int m_token, .int m_number, .long m_name, .ref (md 11), .ref (md 12), .ref (md 13), .ref (md 14), .ref (md 15), .ref (md 16), .ref (md 17), .ref (md 18), .ref (md 19), .ref (md 20), .ref (md 21), .ref (md 22), .ref (md 23), .ref (md 24), .ref (md 25), .ref (md 26), .ref (md 27), .ref (md 28), .int m_bank, .int m_rb, .int m_codes, .int m_within, .int m_piled, .int m_unitsInRule, .int (u14705.2.1 0), .int (u14705.2.1 1), .int (u14705.2.1 2), .int (u14705.2.1 3), .int (u14705.2.1 4), .ref (md 40), .ref (md 41), .int m_thoughtSlow, .int m_came, .ref (md 44), .int m_acts, .int m_undone, .ref (md 47), .ref (md 48), .int m_laid, .ref (md 50), .ref (md 51), .ref (md 52), .ref (md 53), .ref (md 54), .int m_seens, .int m_time, .ref (md 57), .ref (md 58)])), (md 18, .inl (cyI, 2, .inl m_told)), (md 20, .inl (cyI, 2, .inl m_ruleFrom)), (md 21, .inl (cyI, 2, .inl m_ruleTo)), (md 24, .inl (cyI, 1120, .inl m_code)), (md 25, .inl (cyI, 1120, .inl m_codeNumber)), (md 28, .inl (cyI, 60, .inl (u14705.1 0))), (md 40, .inl (cyI, 520, .inl (upd m_all z14707.toNatClampNeg z14735)))] H := hP
      have hD : va_D A [(hM, .inr (7, [.ref (md 0), .ref (md 1), .int m_taped, .int m_size, .int m_faultKind, .int m_faultPlace, .int m_at, .int m_end, .int m_token, .int m_number, .long m_name, .ref (md 11), .ref (md 12), .ref (md 13), .ref (md 14), .ref (md 15), .ref (md 16), .ref (md 17), .ref (md 18), .ref (md 19), .ref (md 20), .ref (md 21), .ref (md 22), .ref (md 23), .ref (md 24), .ref (md 25), .ref (md 26), .ref (md 27), .ref (md 28), .int m_bank, .int m_rb, .int m_codes, .int m_within, .int m_piled, .int m_unitsInRule, .int (u14705.2.1 0), .int (u14705.2.1 1), .int (u14705.2.1 2), .int (u14705.2.1 3), .int (u14705.2.1 4), .ref (md 40), .ref (md 41), .int m_thoughtSlow, .int m_came, .ref (md 44), .int m_acts, .int m_undone, .ref (md 47), .ref (md 48), .int m_laid, .ref (md 50), .ref (md 51), .ref (md 52), .ref (md 53), .ref (md 54), .int m_seens, .int m_time, .ref (md 57), .ref (md 58)])), (md 18, .inl (cyI, 2, .inl m_told)), (md 20, .inl (cyI, 2, .inl m_ruleFrom)), (md 21, .inl (cyI, 2, .inl m_ruleTo)), (md 24, .inl (cyI, 1120, .inl m_code)), (md 25, .inl (cyI, 1120, .inl m_codeNumber)), (md 28, .inl (cyI, 60, .inl (u14705.1 0))), (md 40, .inl (cyI, 520, .inl (upd m_all z14707.toNatClampNeg z14735)))] := hD
      have i14737 := i0_m_all.out (x := z14735) (i := z14707) (c := z14707.toInt) rfl (by omega) (by omega)
      have i14738 := i1_m_all.out (x := z14735) (i := z14707) (c := z14707.toInt) rfl (by omega) (by omega)
      have i14739 := i2_m_all.out (x := z14735) (i := z14707) (c := z14707.toInt) rfl (by omega) (by omega)
      have i14740 := i3_m_all.out (x := z14735) (i := z14707) (c := z14707.toInt) rfl (by omega) (by omega)
      have i14741 := i4_m_all.out (x := z14735) (i := z14707) (c := z14707.toInt) rfl (by omega) (by omega)
      have i14742 := i5_m_all.out (x := z14735) (i := z14707) (c := z14707.toInt) rfl (by omega) (by omega)
      have k14743 := AI.out (f := m_all) (by assumption) i1_m_all i0_m_all (x := z14735) (i := z14707) (c := z14707.toInt) rfl (by omega) (by omega)
      generalize ef14736 : upd m_all z14707.toNatClampNeg z14735 = f14736 at hP hD i14737 i14738 i14739 i14740 i14741 i14742 k14743
      have hkp : ∀ j : Nat, j < 110 → f14736 j = m_all j := fun j hj => by rw [← ef14736]; exact upd_ne (by show j ≠ Int.toNat _; omega)
      have w14744 : AI f14736 := by assumption
      have w14745 : ∀ j : Nat, j < 110 → f14736 j = m_all j := by first | omega | assumption | rfl
      exact W.vret hx hb hr (fun t ht hW => ⟨⟨((fun k => match k with | 0 => u14705.1 0 | _ => f14736), (fun k => match k with | 0 => u14705.2.1 0 | 1 => u14705.2.1 1 | 2 => u14705.2.1 2 | 3 => u14705.2.1 3 | _ => u14705.2.1 4), (fun _ => 0), (fun _ => fun _ => 0)), rfl, ⟨i14737, i14738, i14739, i14740, i14741, i14742, w14744, w14745⟩, cE.of ht hP hD [0, 1, 2, 3, 4, 5, 6, 7] (by decide) rfl⟩, hS.F ht⟩) hS.2.2 dX7_sendUp_84
