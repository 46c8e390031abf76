def wo_c_M_law : List Cond := [.methodLink RX7 456 yX7_canWrite, .instanceMethod yX7_canWrite, .selects RX7 yX7_canWrite yX7_canWrite, .initialized RX7]
def wq_c_M_law : List Cond := .code yX7_law cX7_law 3 (some .int) :: (wo_c_M_law ++ (wq_k_X7_canWrite ++ []))
theorem gd_c_M_law : Gd wq_c_M_law := gd_c (gd_a (gd_o (by decide +kernel)) (gd_a gd_k_X7_canWrite gd_0))
abbrev wc_c_M_law (cyB cyI cyJ cyZ cyO : ClassId) (h1 : Nat) (md : Nat → Nat) (g : Nat → Int32) (x1 : Int32) : va_W := [(h1, .inr (7, [.ref (md 0), .ref (md 1), .int 0, .int 0, .int 0, .int (-1), .int 0, .int 0, .int 0, .int 0, .long 0, .ref (md 11), .ref (md 12), .ref (md 13), .ref (md 14), .ref (md 15), .ref (md 16), .ref (md 17), .ref (md 18), .ref (md 19), .ref (md 20), .ref (md 21), .ref (md 22), .ref (md 23), .ref (md 24), .ref (md 25), .ref (md 26), .ref (md 27), .ref (md 28), .int 0, .int 0, .int 0, .int 0, .int 0, .int 0, .int 0, .int 0, .int 0, .int 0, .int 0, .ref (md 40), .ref (md 41), .int 0, .int 0, .ref (md 44), .int 0, .int 0, .ref (md 47), .ref (md 48), .int 0, .ref (md 50), .ref (md 51), .ref (md 52), .ref (md 53), .ref (md 54), .int 0, .int 0, .ref (md 57), .ref (md 58)])), (md 40, .inl (cyI, 520, .inl g))]
set_option maxHeartbeats 4000000 in
set_option maxRecDepth 100000 in
theorem c_M_law (l : Launch) (dC : Nat → ClassId) (dI : Nat → Nat → Nat) (cyB cyI cyJ cyZ cyO : ClassId) (h1 : Nat) (md : Nat → Nat) (g : Nat → Int32) (x1 : Int32) (sz : Nat) (hg : AllZ g) : Met l yX7_law wq_c_M_law ({ frames := 2, cells := 0, slots := 0, locals := 40 }) (va_Pc [.ref h1, .int x1] (cB (dC, dI) (kT cyB cyI cyJ cyZ cyO) (wc_c_M_law cyB cyI cyJ cyZ cyO h1 md g x1) sz)) (va_Qi (fun (r : Int32) (_ : Unit) => r = -1) (fun (u : Unit) t => cE (dC, dI) (va_A (wc_c_M_law cyB cyI cyJ cyZ cyO h1 md g x1) sz) ([]) t.heap) (va_A (wc_c_M_law cyB cyI cyJ cyZ cyO h1 md g x1) sz)) 0 0 (va_A (wc_c_M_law cyB cyI cyJ cyZ cyO h1 md g x1) sz) := by
  refine Met.ofW (cc := cX7_law) (maxL := 3) (ret := (some .int)) (by decide) rfl ?_
  intro p e s m args below meth c s₁ B hml hv
  obtain ⟨rfl, hsz, hP, hKN, hD0⟩ := hv
  have hx := B.exec
  have hb := B.bytes
  have hr := B.returns
  have hts := atoms_spec (ws := wq_c_M_law) B.pre
  have hown : s.vm.findClass RX7 = some m.cls := findClass_of_methodNamed B.named
  have hlocks := B.notSynchronized
  have hK := hKN.1
  have hfix : CallFix p m c cX7_law 3 s [.ref h1, .int x1].toArray wq_c_M_law RX7 := ⟨hx, hb, hml, hown, hts⟩
  subst hsz
  have hD := hD0.self (sz := s.heap.size)
  generalize hAe : va_A (wc_c_M_law cyB cyI cyJ cyZ cyO h1 md g x1) s.heap.size = A at hD ⊢
  have hA : ∀ q : Nat, s.heap.size ≤ q → A q := fun q h => by rw [← hAe]; exact Or.inr h
  have hS : va_S A s.heap s.heap [] := va_S.rf
  have hl := lv_entry ([.ref h1, .int x1]) (n := 3) (Nat.le_of_ble_eq_true rfl)
  rw [lg_entry_eq]
  generalize (lg_sl ([.ref h1, .int x1]) ++ List.replicate (3 - (lg_sl ([.ref h1, .int x1])).length) Slot.unset).toArray = ls at hl ⊢
  have hl : lv_has ls 3 [(0, .ref h1), (1, .int x1)] := hl
  refine lv_aload_n hx hb dX7_law_0 rfl (lv_at hl 0 rfl) ?_
  refine gf_i (wr := []) (va_runV (As := []) (rest := []) hfix (k_X7_canWrite l dC dI cyB cyI cyJ cyZ cyO h1 md g _ hg) (cwV 0 hts (gi_V (ow_m (k := 0) rfl) (ow_m (k := 1) rfl) (ow_m (k := 2) rfl) (ow_m (k := 3) rfl) (sb_c sb_l) gd_k_X7_canWrite) rfl rfl rfl (by decide +kernel) ⟨Nat.le_of_ble_eq_true rfl, Nat.le_of_ble_eq_true rfl⟩) (g_preV hKN hP hD [0, 1] rfl (by decide) 0 7 rfl rfl) rfl rfl hl.1 rfl (lv_room (Nat.le_of_ble_eq_true rfl)) dX7_law_1 ⟨Nat.le_of_ble_eq_true rfl, Nat.le_of_ble_eq_true rfl⟩) hP hD hS hA [0, 1] [] rfl rfl (by decide) (by decide) (fun r2843 u2844 H locs qu2844 hP hD hS => ?_)
  have hP : va_P (dC, dI) vwCl [(h1, .inr (7, [.ref (md 0), .ref (md 1), .int 0, .int 0, .int 0, .int (-1), .int 0, .int 0, .int 0, .int 0, .long 0, .ref (md 11), .ref (md 12), .ref (md 13), .ref (md 14), .ref (md 15), .ref (md 16), .ref (md 17), .ref (md 18), .ref (md 19), .ref (md 20), .ref (md 21), .ref (md 22), .ref (md 23), .ref (md 24), .ref (md 25), .ref (md 26), .ref (md 27), .ref (md 28), .int 0, .int 0, .int 0, .int 0, .int 0, .int 0, .int 0, .int 0, .int 0, .int 0, .int 0, .ref (md 40), .ref (md 41), .int 0, .int 0, .ref (md 44), .int 0, .int 0, .ref (md 47), .ref (md 48), .int 0, .ref (md 50), .ref (md 51), .ref (md 52), .ref (md 53), .ref (md 54), .int 0, .int 0, .ref (md 57), .ref (md 58)])), (md 40, .inl (cyI, 520, .inl g))] H := hP
  have hD : va_D A [(h1, .inr (7, [.ref (md 0), .ref (md 1), .int 0, .int 0, .int 0, .int (-1), .int 0, .int 0, .int 0, .int 0, .long 0, .ref (md 11), .ref (md 12), .ref (md 13), .ref (md 14), .ref (md 15), .ref (md 16), .ref (md 17), .ref (md 18), .ref (md 19), .ref (md 20), .ref (md 21), .ref (md 22), .ref (md 23), .ref (md 24), .ref (md 25), .ref (md 26), .ref (md 27), .ref (md 28), .int 0, .int 0, .int 0, .int 0, .int 0, .int 0, .int 0, .int 0, .int 0, .int 0, .int 0, .ref (md 40), .ref (md 41), .int 0, .int 0, .ref (md 44), .int 0, .int 0, .ref (md 47), .ref (md 48), .int 0, .ref (md 50), .ref (md 51), .ref (md 52), .ref (md 53), .ref (md 54), .int 0, .int 0, .ref (md 57), .ref (md 58)])), (md 40, .inl (cyI, 520, .inl g))] := hD
  refine tp_c (w := 0) qu2844 ?_
  refine lv_if_eq (tgt := 17) hx hb dX7_law_4 (by decide) (fun _ => ?_) (fun c2845 => absurd (by decide) c2845)
  refine lv_iconst (v := (-1)) hx hb dX7_law_17 (by decide) ?_
  exact W.iret (v := (-1)) hx hb hr (fun t ht hW => ⟨⟨(-1), (), rfl, rfl, cE.nil⟩, hS.F ht⟩) hS.2.2 dX7_law_18
def wo_k_X7_isIn_v7 : List Cond := []
def wq_k_X7_isIn_v7 : List Cond := .code yX7_isIn cX7_isIn 3 (some .boolean) :: (wo_k_X7_isIn_v7 ++ [])
theorem gd_k_X7_isIn_v7 : Gd wq_k_X7_isIn_v7 := gd_c (gd_a (gd_o (by decide +kernel)) gd_0)
abbrev wc_k_X7_isIn_v7 (cyB cyI cyJ cyZ cyO : ClassId) : va_W := []
set_option maxHeartbeats 4000000 in
set_option maxRecDepth 100000 in
theorem k_X7_isIn_v7 (l : Launch) (dC : Nat → ClassId) (dI : Nat → Nat → Nat) (cyB cyI cyJ cyZ cyO : ClassId) (sz : Nat) : Met l yX7_isIn wq_k_X7_isIn_v7 ({ frames := 0, cells := 0, slots := 0, locals := 0 }) (va_Pc [.int 0, .int 0, .int 4] (cB (dC, dI) (kT cyB cyI cyJ cyZ cyO) (wc_k_X7_isIn_v7 cyB cyI cyJ cyZ cyO) sz)) (va_Qi (fun (r : Int32) _ => r = 1) (fun (u : Unit) t => cE (dC, dI) (va_A (wc_k_X7_isIn_v7 cyB cyI cyJ cyZ cyO) sz) ([]) t.heap) (va_A (wc_k_X7_isIn_v7 cyB cyI cyJ cyZ cyO) sz)) 0 0 (va_A (wc_k_X7_isIn_v7 cyB cyI cyJ cyZ cyO) sz) := by
  refine Met.ofW (cc := cX7_isIn) (maxL := 3) (ret := (some .boolean)) (by decide) rfl ?_
  intro p e s m args below meth c s₁ B hml hv
  obtain ⟨rfl, hsz, hP, hKN, hD0⟩ := hv
  have hx := B.exec
  have hb := B.bytes
  have hr := B.returns
  have hts := atoms_spec (ws := wq_k_X7_isIn_v7) B.pre
  have hown : s.vm.findClass RX7 = some m.cls := findClass_of_methodNamed B.named
  have hlocks := B.notSynchronized
  have hK := hKN.1
  have hfix : CallFix p m c cX7_isIn 3 s [.int 0, .int 0, .int 4].toArray wq_k_X7_isIn_v7 RX7 := ⟨hx, hb, hml, hown, hts⟩
  subst hsz
  have hD := hD0.self (sz := s.heap.size)
  generalize hAe : va_A (wc_k_X7_isIn_v7 cyB cyI cyJ cyZ cyO) s.heap.size = A at hD ⊢
  have hA : ∀ q : Nat, s.heap.size ≤ q → A q := fun q h => by rw [← hAe]; exact Or.inr h
  have hS : va_S A s.heap s.heap [] := va_S.rf
  have hl := lv_entry ([.int 0, .int 0, .int 4]) (n := 3) (Nat.le_of_ble_eq_true rfl)
  rw [lg_entry_eq]
  generalize (lg_sl ([.int 0, .int 0, .int 4]) ++ List.replicate (3 - (lg_sl ([.int 0, .int 0, .int 4])).length) Slot.unset).toArray = ls at hl ⊢
  have hl : lv_has ls 3 [(0, .int 0), (1, .int 0), (2, .int 4)] := hl
  refine lv_iload_n hx hb dX7_isIn_0 rfl (lv_at hl 0 rfl) ?_
  refine lv_iload_n hx hb dX7_isIn_1 rfl (lv_at hl 1 rfl) ?_
  refine lv_icmp_lt (tgt := 14) hx hb dX7_isIn_2 (by decide) (fun c2849 => absurd c2849 (by decide)) (fun _ => ?_)
  refine lv_iload_n hx hb dX7_isIn_5 rfl (lv_at hl 0 rfl) ?_
  refine lv_iload_n hx hb dX7_isIn_6 rfl (lv_at hl 2 rfl) ?_
  refine lv_icmp_gt (tgt := 14) hx hb dX7_isIn_7 (by decide) (fun c2850 => absurd c2850 (by decide)) (fun _ => ?_)
  refine lv_iconst (v := 1) hx hb dX7_isIn_10 (by decide) ?_
  refine lv_goto (tgt := 15) hx hb dX7_isIn_11 (by decide) ?_
  exact W.zret (v := 1) hx hb hr (by decide) (fun t ht hW => ⟨⟨1, (), rfl, rfl, cE.of ht hP hD [] (by decide) rfl⟩, hS.F ht⟩) hS.2.2 dX7_isIn_15
def wo_k_X7_power : List Cond := []
def wq_k_X7_power : List Cond := .code yX7_power cX7_power 4 (some .int) :: (wo_k_X7_power ++ [])
theorem gd_k_X7_power : Gd wq_k_X7_power := gd_c (gd_a (gd_o (by decide +kernel)) gd_0)
abbrev wc_k_X7_power (cyB cyI cyJ cyZ cyO : ClassId) : va_W := []
set_option maxHeartbeats 4000000 in
set_option maxRecDepth 100000 in
theorem k_X7_power (l : Launch) (dC : Nat → ClassId) (dI : Nat → Nat → Nat) (cyB cyI cyJ cyZ cyO : ClassId) (sz : Nat) : Met l yX7_power wq_k_X7_power ({ frames := 0, cells := 0, slots := 0, locals := 0 }) (va_Pc [.int 100, .int 0] (cB (dC, dI) (kT cyB cyI cyJ cyZ cyO) (wc_k_X7_power cyB cyI cyJ cyZ cyO) sz)) (va_Qi (fun (r : Int32) _ => r = 1) (fun (u : Unit) t => cE (dC, dI) (va_A (wc_k_X7_power cyB cyI cyJ cyZ cyO) sz) ([]) t.heap) (va_A (wc_k_X7_power cyB cyI cyJ cyZ cyO) sz)) 0 0 (va_A (wc_k_X7_power cyB cyI cyJ cyZ cyO) sz) := by
  refine Met.ofW (cc := cX7_power) (maxL := 4) (ret := (some .int)) (by decide) rfl ?_
  intro p e s m args below meth c s₁ B hml hv
  obtain ⟨rfl, hsz, hP, hKN, hD0⟩ := hv
  have hx := B.exec
  have hb := B.bytes
  have hr := B.returns
  have hts := atoms_spec (ws := wq_k_X7_power) B.pre
  have hown : s.vm.findClass RX7 = some m.cls := findClass_of_methodNamed B.named
  have hlocks := B.notSynchronized
  have hK := hKN.1
  have hfix : CallFix p m c cX7_power 4 s [.int 100, .int 0].toArray wq_k_X7_power RX7 := ⟨hx, hb, hml, hown, hts⟩
  subst hsz
  have hD := hD0.self (sz := s.heap.size)
  generalize hAe : va_A (wc_k_X7_power cyB cyI cyJ cyZ cyO) s.heap.size = A at hD ⊢
  have hA : ∀ q : Nat, s.heap.size ≤ q → A q := fun q h => by rw [← hAe]; exact Or.inr h
  have hS : va_S A s.heap s.heap [] := va_S.rf
  have hl := lv_entry ([.int 100, .int 0]) (n := 4) (Nat.le_of_ble_eq_true rfl)
  rw [lg_entry_eq]
  generalize (lg_sl ([.int 100, .int 0]) ++ List.replicate (4 - (lg_sl ([.int 100, .int 0])).length) Slot.unset).toArray = ls at hl ⊢
  have hl : lv_has ls 4 [(0, .int 100), (1, .int 0)] := hl
  refine lv_iconst (v := 1) hx hb dX7_power_0 (by decide) ?_
  refine lv_istore_n (lv' := [(2, .int 1), (0, .int 100), (1, .int 0)]) hx hb dX7_power_1 rfl hl (by decide) rfl (fun ls hl => ?_)
  refine lv_iconst (v := 0) hx hb dX7_power_2 (by decide) ?_
  refine lv_istore_n (lv' := [(3, .int 0), (2, .int 1), (0, .int 100), (1, .int 0)]) hx hb dX7_power_3 rfl hl (by decide) rfl (fun ls hl => ?_)
  refine lv_iload_n hx hb dX7_power_4 rfl (lv_at hl 0 rfl) ?_
  refine lv_iload_n hx hb dX7_power_5 rfl (lv_at hl 3 rfl) ?_
  refine lv_icmp_ge (tgt := 19) hx hb dX7_power_6 (by decide) (fun _ => ?_) (fun c2867 => absurd (by decide) c2867)
  refine lv_iload_n hx hb dX7_power_19 rfl (lv_at hl 1 rfl) ?_
  exact W.iret (v := 1) hx hb hr (fun t ht hW => ⟨⟨1, (), rfl, rfl, cE.of ht hP hD [] (by decide) rfl⟩, hS.F ht⟩) hS.2.2 dX7_power_20
def wo_k_X7_divisor : List Cond := []
def wq_k_X7_divisor : List Cond := .code yX7_divisor cX7_divisor 5 (some .int) :: (wo_k_X7_divisor ++ [])
theorem gd_k_X7_divisor : Gd wq_k_X7_divisor := gd_c (gd_a (gd_o (by decide +kernel)) gd_0)
abbrev wc_k_X7_divisor (cyB cyI cyJ cyZ cyO : ClassId) : va_W := []
set_option maxHeartbeats 4000000 in
set_option maxRecDepth 100000 in
theorem k_X7_divisor (l : Launch) (dC : Nat → ClassId) (dI : Nat → Nat → Nat) (cyB cyI cyJ cyZ cyO : ClassId) (sz : Nat) : Met l yX7_divisor wq_k_X7_divisor ({ frames := 0, cells := 0, slots := 0, locals := 0 }) (va_Pc [.int 1, .int 1] (cB (dC, dI) (kT cyB cyI cyJ cyZ cyO) (wc_k_X7_divisor cyB cyI cyJ cyZ cyO) sz)) (va_Qi (fun (r : Int32) _ => r = 1) (fun (u : Unit) t => cE (dC, dI) (va_A (wc_k_X7_divisor cyB cyI cyJ cyZ cyO) sz) ([]) t.heap) (va_A (wc_k_X7_divisor cyB cyI cyJ cyZ cyO) sz)) 0 0 (va_A (wc_k_X7_divisor cyB cyI cyJ cyZ cyO) sz) := by
  refine Met.ofW (cc := cX7_divisor) (maxL := 5) (ret := (some .int)) (by decide) rfl ?_
  intro p e s m args below meth c s₁ B hml hv
  obtain ⟨rfl, hsz, hP, hKN, hD0⟩ := hv
  have hx := B.exec
  have hb := B.bytes
  have hr := B.returns
  have hts := atoms_spec (ws := wq_k_X7_divisor) B.pre
  have hown : s.vm.findClass RX7 = some m.cls := findClass_of_methodNamed B.named
  have hlocks := B.notSynchronized
  have hK := hKN.1
  have hfix : CallFix p m c cX7_divisor 5 s [.int 1, .int 1].toArray wq_k_X7_divisor RX7 := ⟨hx, hb, hml, hown, hts⟩
  subst hsz
  have hD := hD0.self (sz := s.heap.size)
  generalize hAe : va_A (wc_k_X7_divisor cyB cyI cyJ cyZ cyO) s.heap.size = A at hD ⊢
  have hA : ∀ q : Nat, s.heap.size ≤ q → A q := fun q h => by rw [← hAe]; exact Or.inr h
  have hS : va_S A s.heap s.heap [] := va_S.rf
  have hl := lv_entry ([.int 1, .int 1]) (n := 5) (Nat.le_of_ble_eq_true rfl)
  rw [lg_entry_eq]
  generalize (lg_sl ([.int 1, .int 1]) ++ List.replicate (5 - (lg_sl ([.int 1, .int 1])).length) Slot.unset).toArray = ls at hl ⊢
  have hl : lv_has ls 5 [(0, .int 1), (1, .int 1)] := hl
  refine lv_iload_n hx hb dX7_divisor_0 rfl (lv_at hl 0 rfl) ?_
  refine lv_istore_n (lv' := [(2, .int 1), (0, .int 1), (1, .int 1)]) hx hb dX7_divisor_1 rfl hl (by decide) rfl (fun ls hl => ?_)
  refine lv_iload_n hx hb dX7_divisor_2 rfl (lv_at hl 2 rfl) ?_
  refine lv_istore_n (lv' := [(3, .int 1), (2, .int 1), (0, .int 1), (1, .int 1)]) hx hb dX7_divisor_3 rfl hl (by decide) rfl (fun ls hl => ?_)
  refine lv_iload_n hx hb dX7_divisor_4 rfl (lv_at hl 0 rfl) ?_
  refine lv_if_le (tgt := 21) hx hb dX7_divisor_5 (by decide) (fun c2876 => absurd c2876 (by decide)) (fun _ => ?_)
  refine lv_iload_n hx hb dX7_divisor_8 rfl (lv_at hl 1 rfl) ?_
  refine lv_iload_n hx hb dX7_divisor_9 rfl (lv_at hl 0 rfl) ?_
  refine lv_irem hx hb dX7_divisor_10 (by decide) ?_
  refine tp_c (w := 0) (by decide) ?_
  refine lv_istore (lv' := [(4, .int 0), (3, .int 1), (2, .int 1), (0, .int 1), (1, .int 1)]) hx hb dX7_divisor_11 hl (by decide) rfl (fun ls hl => ?_)
  refine lv_iload_n hx hb dX7_divisor_13 rfl (lv_at hl 1 rfl) ?_
  refine lv_istore_n (lv' := [(2, .int 1), (4, .int 0), (3, .int 1), (0, .int 1), (1, .int 1)]) hx hb dX7_divisor_14 rfl hl (by decide) rfl (fun ls hl => ?_)
  refine lv_iload hx hb dX7_divisor_15 (lv_at hl 1 rfl) ?_
  refine lv_istore_n (lv' := [(3, .int 0), (2, .int 1), (4, .int 0), (0, .int 1), (1, .int 1)]) hx hb dX7_divisor_17 rfl hl (by decide) rfl (fun ls hl => ?_)
  refine lv_goto (tgt := 4) hx hb dX7_divisor_18 (by decide) ?_
  refine lv_iload_n hx hb dX7_divisor_4 rfl (lv_at hl 0 rfl) ?_
  refine lv_if_le (tgt := 21) hx hb dX7_divisor_5 (by decide) (fun _ => ?_) (fun c2877 => absurd (by decide) c2877)
  refine lv_iload_n hx hb dX7_divisor_21 rfl (lv_at hl 1 rfl) ?_
  exact W.iret (v := 1) hx hb hr (fun t ht hW => ⟨⟨1, (), rfl, rfl, cE.of ht hP hD [] (by decide) rfl⟩, hS.F ht⟩) hS.2.2 dX7_divisor_22
def wo_k_X7_isIn_v8 : List Cond := []
def wq_k_X7_isIn_v8 : List Cond := .code yX7_isIn cX7_isIn 3 (some .boolean) :: (wo_k_X7_isIn_v8 ++ [])
theorem gd_k_X7_isIn_v8 : Gd wq_k_X7_isIn_v8 := gd_c (gd_a (gd_o (by decide +kernel)) gd_0)
abbrev wc_k_X7_isIn_v8 (cyB cyI cyJ cyZ cyO : ClassId) : va_W := []
set_option maxHeartbeats 4000000 in
set_option maxRecDepth 100000 in
theorem k_X7_isIn_v8 (l : Launch) (dC : Nat → ClassId) (dI : Nat → Nat → Nat) (cyB cyI cyJ cyZ cyO : ClassId) (sz : Nat) : Met l yX7_isIn wq_k_X7_isIn_v8 ({ frames := 0, cells := 0, slots := 0, locals := 0 }) (va_Pc [.int 1, .int 0, .int 4] (cB (dC, dI) (kT cyB cyI cyJ cyZ cyO) (wc_k_X7_isIn_v8 cyB cyI cyJ cyZ cyO) sz)) (va_Qi (fun (r : Int32) _ => r = 1) (fun (u : Unit) t => cE (dC, dI) (va_A (wc_k_X7_isIn_v8 cyB cyI cyJ cyZ cyO) sz) ([]) t.heap) (va_A (wc_k_X7_isIn_v8 cyB cyI cyJ cyZ cyO) sz)) 0 0 (va_A (wc_k_X7_isIn_v8 cyB cyI cyJ cyZ cyO) sz) := by
  refine Met.ofW (cc := cX7_isIn) (maxL := 3) (ret := (some .boolean)) (by decide) rfl ?_
  intro p e s m args below meth c s₁ B hml hv
  obtain ⟨rfl, hsz, hP, hKN, hD0⟩ := hv
  have hx := B.exec
  have hb := B.bytes
  have hr := B.returns
  have hts := atoms_spec (ws := wq_k_X7_isIn_v8) B.pre
  have hown : s.vm.findClass RX7 = some m.cls := findClass_of_methodNamed B.named
  have hlocks := B.notSynchronized
  have hK := hKN.1
  have hfix : CallFix p m c cX7_isIn 3 s [.int 1, .int 0, .int 4].toArray wq_k_X7_isIn_v8 RX7 := ⟨hx, hb, hml, hown, hts⟩
  subst hsz
  have hD := hD0.self (sz := s.heap.size)
  generalize hAe : va_A (wc_k_X7_isIn_v8 cyB cyI cyJ cyZ cyO) s.heap.size = A at hD ⊢
  have hA : ∀ q : Nat, s.heap.size ≤ q → A q := fun q h => by rw [← hAe]; exact Or.inr h
  have hS : va_S A s.heap s.heap [] := va_S.rf
  have hl := lv_entry ([.int 1, .int 0, .int 4]) (n := 3) (Nat.le_of_ble_eq_true rfl)
  rw [lg_entry_eq]
  generalize (lg_sl ([.int 1, .int 0, .int 4]) ++ List.replicate (3 - (lg_sl ([.int 1, .int 0, .int 4])).length) Slot.unset).toArray = ls at hl ⊢
  have hl : lv_has ls 3 [(0, .int 1), (1, .int 0), (2, .int 4)] := hl
  refine lv_iload_n hx hb dX7_isIn_0 rfl (lv_at hl 0 rfl) ?_
  refine lv_iload_n hx hb dX7_isIn_1 rfl (lv_at hl 1 rfl) ?_
  refine lv_icmp_lt (tgt := 14) hx hb dX7_isIn_2 (by decide) (fun c2887 => absurd c2887 (by decide)) (fun _ => ?_)
  refine lv_iload_n hx hb dX7_isIn_5 rfl (lv_at hl 0 rfl) ?_
  refine lv_iload_n hx hb dX7_isIn_6 rfl (lv_at hl 2 rfl) ?_
  refine lv_icmp_gt (tgt := 14) hx hb dX7_isIn_7 (by decide) (fun c2888 => absurd c2888 (by decide)) (fun _ => ?_)
  refine lv_iconst (v := 1) hx hb dX7_isIn_10 (by decide) ?_
  refine lv_goto (tgt := 15) hx hb dX7_isIn_11 (by decide) ?_
  exact W.zret (v := 1) hx hb hr (by decide) (fun t ht hW => ⟨⟨1, (), rfl, rfl, cE.of ht hP hD [] (by decide) rfl⟩, hS.F ht⟩) hS.2.2 dX7_isIn_15
def wo_k_X7_power_v2 : List Cond := []
def wq_k_X7_power_v2 : List Cond := .code yX7_power cX7_power 4 (some .int) :: (wo_k_X7_power_v2 ++ [])
theorem gd_k_X7_power_v2 : Gd wq_k_X7_power_v2 := gd_c (gd_a (gd_o (by decide +kernel)) gd_0)
abbrev wc_k_X7_power_v2 (cyB cyI cyJ cyZ cyO : ClassId) : va_W := []
set_option maxHeartbeats 4000000 in
set_option maxRecDepth 100000 in
theorem k_X7_power_v2 (l : Launch) (dC : Nat → ClassId) (dI : Nat → Nat → Nat) (cyB cyI cyJ cyZ cyO : ClassId) (sz : Nat) : Met l yX7_power wq_k_X7_power_v2 ({ frames := 0, cells := 0, slots := 0, locals := 0 }) (va_Pc [.int 100, .int 1] (cB (dC, dI) (kT cyB cyI cyJ cyZ cyO) (wc_k_X7_power_v2 cyB cyI cyJ cyZ cyO) sz)) (va_Qi (fun (r : Int32) _ => r = 100) (fun (u : Unit) t => cE (dC, dI) (va_A (wc_k_X7_power_v2 cyB cyI cyJ cyZ cyO) sz) ([]) t.heap) (va_A (wc_k_X7_power_v2 cyB cyI cyJ cyZ cyO) sz)) 0 0 (va_A (wc_k_X7_power_v2 cyB cyI cyJ cyZ cyO) sz) := by
  refine Met.ofW (cc := cX7_power) (maxL := 4) (ret := (some .int)) (by decide) rfl ?_
  intro p e s m args below meth c s₁ B hml hv
  obtain ⟨rfl, hsz, hP, hKN, hD0⟩ := hv
  have hx := B.exec
  have hb := B.bytes
  have hr := B.returns
  have hts := atoms_spec (ws := wq_k_X7_power_v2) B.pre
  have hown : s.vm.findClass RX7 = some m.cls := findClass_of_methodNamed B.named
  have hlocks := B.notSynchronized
  have hK := hKN.1
  have hfix : CallFix p m c cX7_power 4 s [.int 100, .int 1].toArray wq_k_X7_power_v2 RX7 := ⟨hx, hb, hml, hown, hts⟩
  subst hsz
  have hD := hD0.self (sz := s.heap.size)
  generalize hAe : va_A (wc_k_X7_power_v2 cyB cyI cyJ cyZ cyO) s.heap.size = A at hD ⊢
  have hA : ∀ q : Nat, s.heap.size ≤ q → A q := fun q h => by rw [← hAe]; exact Or.inr h
  have hS : va_S A s.heap s.heap [] := va_S.rf
  have hl := lv_entry ([.int 100, .int 1]) (n := 4) (Nat.le_of_ble_eq_true rfl)
  rw [lg_entry_eq]
  generalize (lg_sl ([.int 100, .int 1]) ++ List.replicate (4 - (lg_sl ([.int 100, .int 1])).length) Slot.unset).toArray = ls at hl ⊢
  have hl : lv_has ls 4 [(0, .int 100), (1, .int 1)] := hl
  refine lv_iconst (v := 1) hx hb dX7_power_0 (by decide) ?_
  refine lv_istore_n (lv' := [(2, .int 1), (0, .int 100), (1, .int 1)]) hx hb dX7_power_1 rfl hl (by decide) rfl (fun ls hl => ?_)
  refine lv_iconst (v := 0) hx hb dX7_power_2 (by decide) ?_
  refine lv_istore_n (lv' := [(3, .int 0), (2, .int 1), (0, .int 100), (1, .int 1)]) hx hb dX7_power_3 rfl hl (by decide) rfl (fun ls hl => ?_)
  refine lv_iload_n hx hb dX7_power_4 rfl (lv_at hl 0 rfl) ?_
  refine lv_iload_n hx hb dX7_power_5 rfl (lv_at hl 3 rfl) ?_
  refine lv_icmp_ge (tgt := 19) hx hb dX7_power_6 (by decide) (fun c2906 => absurd c2906 (by decide)) (fun _ => ?_)
  refine lv_iload_n hx hb dX7_power_9 rfl (lv_at hl 1 rfl) ?_
  refine lv_iload_n hx hb dX7_power_10 rfl (lv_at hl 2 rfl) ?_
  refine lv_imul hx hb dX7_power_11 ?_
  refine tp_c (w := 100) (by decide) ?_
  refine lv_istore_n (lv' := [(2, .int 100), (3, .int 0), (0, .int 100), (1, .int 1)]) hx hb dX7_power_12 rfl hl (by decide) rfl (fun ls hl => ?_)
  refine lv_iinc (v := 1) (lv' := [(3, .int 1), (2, .int 100), (0, .int 100), (1, .int 1)]) hx hb dX7_power_13 hl (k := 1) rfl (by decide) (by decide) rfl (fun ls hl => ?_)
  refine lv_goto (tgt := 4) hx hb dX7_power_16 (by decide) ?_
  refine lv_iload_n hx hb dX7_power_4 rfl (lv_at hl 0 rfl) ?_
  refine lv_iload_n hx hb dX7_power_5 rfl (lv_at hl 3 rfl) ?_
  refine lv_icmp_ge (tgt := 19) hx hb dX7_power_6 (by decide) (fun _ => ?_) (fun c2907 => absurd (by decide) c2907)
  refine lv_iload_n hx hb dX7_power_19 rfl (lv_at hl 1 rfl) ?_
  exact W.iret (v := 100) hx hb hr (fun t ht hW => ⟨⟨100, (), rfl, rfl, cE.of ht hP hD [] (by decide) rfl⟩, hS.F ht⟩) hS.2.2 dX7_power_20
def wo_k_X7_divisor_v2 : List Cond := []
def wq_k_X7_divisor_v2 : List Cond := .code yX7_divisor cX7_divisor 5 (some .int) :: (wo_k_X7_divisor_v2 ++ [])
theorem gd_k_X7_divisor_v2 : Gd wq_k_X7_divisor_v2 := gd_c (gd_a (gd_o (by decide +kernel)) gd_0)
abbrev wc_k_X7_divisor_v2 (cyB cyI cyJ cyZ cyO : ClassId) : va_W := []
set_option maxHeartbeats 4000000 in
set_option maxRecDepth 100000 in
theorem k_X7_divisor_v2 (l : Launch) (dC : Nat → ClassId) (dI : Nat → Nat → Nat) (cyB cyI cyJ cyZ cyO : ClassId) (sz : Nat) : Met l yX7_divisor wq_k_X7_divisor_v2 ({ frames := 0, cells := 0, slots := 0, locals := 0 }) (va_Pc [.int 100, .int 100] (cB (dC, dI) (kT cyB cyI cyJ cyZ cyO) (wc_k_X7_divisor_v2 cyB cyI cyJ cyZ cyO) sz)) (va_Qi (fun (r : Int32) _ => r = 100) (fun (u : Unit) t => cE (dC, dI) (va_A (wc_k_X7_divisor_v2 cyB cyI cyJ cyZ cyO) sz) ([]) t.heap) (va_A (wc_k_X7_divisor_v2 cyB cyI cyJ cyZ cyO) sz)) 0 0 (va_A (wc_k_X7_divisor_v2 cyB cyI cyJ cyZ cyO) sz) := by
  refine Met.ofW (cc := cX7_divisor) (maxL := 5) (ret := (some .int)) (by decide) rfl ?_
  intro p e s m args below meth c s₁ B hml hv
  obtain ⟨rfl, hsz, hP, hKN, hD0⟩ := hv
  have hx := B.exec
  have hb := B.bytes
  have hr := B.returns
  have hts := atoms_spec (ws := wq_k_X7_divisor_v2) B.pre
  have hown : s.vm.findClass RX7 = some m.cls := findClass_of_methodNamed B.named
  have hlocks := B.notSynchronized
  have hK := hKN.1
  have hfix : CallFix p m c cX7_divisor 5 s [.int 100, .int 100].toArray wq_k_X7_divisor_v2 RX7 := ⟨hx, hb, hml, hown, hts⟩
  subst hsz
  have hD := hD0.self (sz := s.heap.size)
  generalize hAe : va_A (wc_k_X7_divisor_v2 cyB cyI cyJ cyZ cyO) s.heap.size = A at hD ⊢
  have hA : ∀ q : Nat, s.heap.size ≤ q → A q := fun q h => by rw [← hAe]; exact Or.inr h
  have hS : va_S A s.heap s.heap [] := va_S.rf
  have hl := lv_entry ([.int 100, .int 100]) (n := 5) (Nat.le_of_ble_eq_true rfl)
  rw [lg_entry_eq]
  generalize (lg_sl ([.int 100, .int 100]) ++ List.replicate (5 - (lg_sl ([.int 100, .int 100])).length) Slot.unset).toArray = ls at hl ⊢
  have hl : lv_has ls 5 [(0, .int 100), (1, .int 100)] := hl
  refine lv_iload_n hx hb dX7_divisor_0 rfl (lv_at hl 0 rfl) ?_
  refine lv_istore_n (lv' := [(2, .int 100), (0, .int 100), (1, .int 100)]) hx hb dX7_divisor_1 rfl hl (by decide) rfl (fun ls hl => ?_)
  refine lv_iload_n hx hb dX7_divisor_2 rfl (lv_at hl 2 rfl) ?_
  refine lv_istore_n (lv' := [(3, .int 100), (2, .int 100), (0, .int 100), (1, .int 100)]) hx hb dX7_divisor_3 rfl hl (by decide) rfl (fun ls hl => ?_)
  refine lv_iload_n hx hb dX7_divisor_4 rfl (lv_at hl 0 rfl) ?_
  refine lv_if_le (tgt := 21) hx hb dX7_divisor_5 (by decide) (fun c2917 => absurd c2917 (by decide)) (fun _ => ?_)
  refine lv_iload_n hx hb dX7_divisor_8 rfl (lv_at hl 1 rfl) ?_
  refine lv_iload_n hx hb dX7_divisor_9 rfl (lv_at hl 0 rfl) ?_
  refine lv_irem hx hb dX7_divisor_10 (by decide) ?_
  refine tp_c (w := 0) (by decide) ?_
  refine lv_istore (lv' := [(4, .int 0), (3, .int 100), (2, .int 100), (0, .int 100), (1, .int 100)]) hx hb dX7_divisor_11 hl (by decide) rfl (fun ls hl => ?_)
  refine lv_iload_n hx hb dX7_divisor_13 rfl (lv_at hl 1 rfl) ?_
  refine lv_istore_n (lv' := [(2, .int 100), (4, .int 0), (3, .int 100), (0, .int 100), (1, .int 100)]) hx hb dX7_divisor_14 rfl hl (by decide) rfl (fun ls hl => ?_)
  refine lv_iload hx hb dX7_divisor_15 (lv_at hl 1 rfl) ?_
  refine lv_istore_n (lv' := [(3, .int 0), (2, .int 100), (4, .int 0), (0, .int 100), (1, .int 100)]) hx hb dX7_divisor_17 rfl hl (by decide) rfl (fun ls hl => ?_)
  refine lv_goto (tgt := 4) hx hb dX7_divisor_18 (by decide) ?_
  refine lv_iload_n hx hb dX7_divisor_4 rfl (lv_at hl 0 rfl) ?_
  refine lv_if_le (tgt := 21) hx hb dX7_divisor_5 (by decide) (fun _ => ?_) (fun c2918 => absurd (by decide) c2918)
  refine lv_iload_n hx hb dX7_divisor_21 rfl (lv_at hl 1 rfl) ?_
  exact W.iret (v := 100) hx hb hr (fun t ht hW => ⟨⟨100, (), rfl, rfl, cE.of ht hP hD [] (by decide) rfl⟩, hS.F ht⟩) hS.2.2 dX7_divisor_22
def wo_k_X7_isIn_v9 : List Cond := []
def wq_k_X7_isIn_v9 : List Cond := .code yX7_isIn cX7_isIn 3 (some .boolean) :: (wo_k_X7_isIn_v9 ++ [])
theorem gd_k_X7_isIn_v9 : Gd wq_k_X7_isIn_v9 := gd_c (gd_a (gd_o (by decide +kernel)) gd_0)
abbrev wc_k_X7_isIn_v9 (cyB cyI cyJ cyZ cyO : ClassId) : va_W := []
set_option maxHeartbeats 4000000 in
set_option maxRecDepth 100000 in
theorem k_X7_isIn_v9 (l : Launch) (dC : Nat → ClassId) (dI : Nat → Nat → Nat) (cyB cyI cyJ cyZ cyO : ClassId) (sz : Nat) : Met l yX7_isIn wq_k_X7_isIn_v9 ({ frames := 0, cells := 0, slots := 0, locals := 0 }) (va_Pc [.int 2, .int 0, .int 4] (cB (dC, dI) (kT cyB cyI cyJ cyZ cyO) (wc_k_X7_isIn_v9 cyB cyI cyJ cyZ cyO) sz)) (va_Qi (fun (r : Int32) _ => r = 1) (fun (u : Unit) t => cE (dC, dI) (va_A (wc_k_X7_isIn_v9 cyB cyI cyJ cyZ cyO) sz) ([]) t.heap) (va_A (wc_k_X7_isIn_v9 cyB cyI cyJ cyZ cyO) sz)) 0 0 (va_A (wc_k_X7_isIn_v9 cyB cyI cyJ cyZ cyO) sz) := by
  refine Met.ofW (cc := cX7_isIn) (maxL := 3) (ret := (some .boolean)) (by decide) rfl ?_
  intro p e s m args below meth c s₁ B hml hv
  obtain ⟨rfl, hsz, hP, hKN, hD0⟩ := hv
  have hx := B.exec
  have hb := B.bytes
  have hr := B.returns
  have hts := atoms_spec (ws := wq_k_X7_isIn_v9) B.pre
  have hown : s.vm.findClass RX7 = some m.cls := findClass_of_methodNamed B.named
  have hlocks := B.notSynchronized
  have hK := hKN.1
  have hfix : CallFix p m c cX7_isIn 3 s [.int 2, .int 0, .int 4].toArray wq_k_X7_isIn_v9 RX7 := ⟨hx, hb, hml, hown, hts⟩
  subst hsz
  have hD := hD0.self (sz := s.heap.size)
  generalize hAe : va_A (wc_k_X7_isIn_v9 cyB cyI cyJ cyZ cyO) s.heap.size = A at hD ⊢
  have hA : ∀ q : Nat, s.heap.size ≤ q → A q := fun q h => by rw [← hAe]; exact Or.inr h
  have hS : va_S A s.heap s.heap [] := va_S.rf
  have hl := lv_entry ([.int 2, .int 0, .int 4]) (n := 3) (Nat.le_of_ble_eq_true rfl)
  rw [lg_entry_eq]
  generalize (lg_sl ([.int 2, .int 0, .int 4]) ++ List.replicate (3 - (lg_sl ([.int 2, .int 0, .int 4])).length) Slot.unset).toArray = ls at hl ⊢
  have hl : lv_has ls 3 [(0, .int 2), (1, .int 0), (2, .int 4)] := hl
  refine lv_iload_n hx hb dX7_isIn_0 rfl (lv_at hl 0 rfl) ?_
  refine lv_iload_n hx hb dX7_isIn_1 rfl (lv_at hl 1 rfl) ?_
  refine lv_icmp_lt (tgt := 14) hx hb dX7_isIn_2 (by decide) (fun c2928 => absurd c2928 (by decide)) (fun _ => ?_)
  refine lv_iload_n hx hb dX7_isIn_5 rfl (lv_at hl 0 rfl) ?_
  refine lv_iload_n hx hb dX7_isIn_6 rfl (lv_at hl 2 rfl) ?_
  refine lv_icmp_gt (tgt := 14) hx hb dX7_isIn_7 (by decide) (fun c2929 => absurd c2929 (by decide)) (fun _ => ?_)
  refine lv_iconst (v := 1) hx hb dX7_isIn_10 (by decide) ?_
  refine lv_goto (tgt := 15) hx hb dX7_isIn_11 (by decide) ?_
  exact W.zret (v := 1) hx hb hr (by decide) (fun t ht hW => ⟨⟨1, (), rfl, rfl, cE.of ht hP hD [] (by decide) rfl⟩, hS.F ht⟩) hS.2.2 dX7_isIn_15
def wo_k_X7_power_v3 : List Cond := []
def wq_k_X7_power_v3 : List Cond := .code yX7_power cX7_power 4 (some .int) :: (wo_k_X7_power_v3 ++ [])
theorem gd_k_X7_power_v3 : Gd wq_k_X7_power_v3 := gd_c (gd_a (gd_o (by decide +kernel)) gd_0)
abbrev wc_k_X7_power_v3 (cyB cyI cyJ cyZ cyO : ClassId) : va_W := []
set_option maxHeartbeats 4000000 in
set_option maxRecDepth 100000 in
theorem k_X7_power_v3 (l : Launch) (dC : Nat → ClassId) (dI : Nat → Nat → Nat) (cyB cyI cyJ cyZ cyO : ClassId) (sz : Nat) : Met l yX7_power wq_k_X7_power_v3 ({ frames := 0, cells := 0, slots := 0, locals := 0 }) (va_Pc [.int 100, .int 2] (cB (dC, dI) (kT cyB cyI cyJ cyZ cyO) (wc_k_X7_power_v3 cyB cyI cyJ cyZ cyO) sz)) (va_Qi (fun (r : Int32) _ => r = 10000) (fun (u : Unit) t => cE (dC, dI) (va_A (wc_k_X7_power_v3 cyB cyI cyJ cyZ cyO) sz) ([]) t.heap) (va_A (wc_k_X7_power_v3 cyB cyI cyJ cyZ cyO) sz)) 0 0 (va_A (wc_k_X7_power_v3 cyB cyI cyJ cyZ cyO) sz) := by
  refine Met.ofW (cc := cX7_power) (maxL := 4) (ret := (some .int)) (by decide) rfl ?_
  intro p e s m args below meth c s₁ B hml hv
  obtain ⟨rfl, hsz, hP, hKN, hD0⟩ := hv
  have hx := B.exec
  have hb := B.bytes
  have hr := B.returns
  have hts := atoms_spec (ws := wq_k_X7_power_v3) B.pre
  have hown : s.vm.findClass RX7 = some m.cls := findClass_of_methodNamed B.named
  have hlocks := B.notSynchronized
  have hK := hKN.1
  have hfix : CallFix p m c cX7_power 4 s [.int 100, .int 2].toArray wq_k_X7_power_v3 RX7 := ⟨hx, hb, hml, hown, hts⟩
  subst hsz
  have hD := hD0.self (sz := s.heap.size)
  generalize hAe : va_A (wc_k_X7_power_v3 cyB cyI cyJ cyZ cyO) s.heap.size = A at hD ⊢
  have hA : ∀ q : Nat, s.heap.size ≤ q → A q := fun q h => by rw [← hAe]; exact Or.inr h
  have hS : va_S A s.heap s.heap [] := va_S.rf
  have hl := lv_entry ([.int 100, .int 2]) (n := 4) (Nat.le_of_ble_eq_true rfl)
  rw [lg_entry_eq]
  generalize (lg_sl ([.int 100, .int 2]) ++ List.replicate (4 - (lg_sl ([.int 100, .int 2])).length) Slot.unset).toArray = ls at hl ⊢
  have hl : lv_has ls 4 [(0, .int 100), (1, .int 2)] := hl
  refine lv_iconst (v := 1) hx hb dX7_power_0 (by decide) ?_
  refine lv_istore_n (lv' := [(2, .int 1), (0, .int 100), (1, .int 2)]) hx hb dX7_power_1 rfl hl (by decide) rfl (fun ls hl => ?_)
  refine lv_iconst (v := 0) hx hb dX7_power_2 (by decide) ?_
  refine lv_istore_n (lv' := [(3, .int 0), (2, .int 1), (0, .int 100), (1, .int 2)]) hx hb dX7_power_3 rfl hl (by decide) rfl (fun ls hl => ?_)
  refine lv_iload_n hx hb dX7_power_4 rfl (lv_at hl 0 rfl) ?_
  refine lv_iload_n hx hb dX7_power_5 rfl (lv_at hl 3 rfl) ?_
  refine lv_icmp_ge (tgt := 19) hx hb dX7_power_6 (by decide) (fun c2948 => absurd c2948 (by decide)) (fun _ => ?_)
  refine lv_iload_n hx hb dX7_power_9 rfl (lv_at hl 1 rfl) ?_
  refine lv_iload_n hx hb dX7_power_10 rfl (lv_at hl 2 rfl) ?_
  refine lv_imul hx hb dX7_power_11 ?_
  refine tp_c (w := 100) (by decide) ?_
  refine lv_istore_n (lv' := [(2, .int 100), (3, .int 0), (0, .int 100), (1, .int 2)]) hx hb dX7_power_12 rfl hl (by decide) rfl (fun ls hl => ?_)
  refine lv_iinc (v := 1) (lv' := [(3, .int 1), (2, .int 100), (0, .int 100), (1, .int 2)]) hx hb dX7_power_13 hl (k := 1) rfl (by decide) (by decide) rfl (fun ls hl => ?_)
  refine lv_goto (tgt := 4) hx hb dX7_power_16 (by decide) ?_
  refine lv_iload_n hx hb dX7_power_4 rfl (lv_at hl 0 rfl) ?_
  refine lv_iload_n hx hb dX7_power_5 rfl (lv_at hl 3 rfl) ?_
  refine lv_icmp_ge (tgt := 19) hx hb dX7_power_6 (by decide) (fun c2949 => absurd c2949 (by decide)) (fun _ => ?_)
  refine lv_iload_n hx hb dX7_power_9 rfl (lv_at hl 1 rfl) ?_
  refine lv_iload_n hx hb dX7_power_10 rfl (lv_at hl 2 rfl) ?_
  refine lv_imul hx hb dX7_power_11 ?_
  refine tp_c (w := 10000) (by decide) ?_
  refine lv_istore_n (lv' := [(2, .int 10000), (3, .int 1), (0, .int 100), (1, .int 2)]) hx hb dX7_power_12 rfl hl (by decide) rfl (fun ls hl => ?_)
  refine lv_iinc (v := 2) (lv' := [(3, .int 2), (2, .int 10000), (0, .int 100), (1, .int 2)]) hx hb dX7_power_13 hl (k := 1) rfl (by decide) (by decide) rfl (fun ls hl => ?_)
  refine lv_goto (tgt := 4) hx hb dX7_power_16 (by decide) ?_
  refine lv_iload_n hx hb dX7_power_4 rfl (lv_at hl 0 rfl) ?_
  refine lv_iload_n hx hb dX7_power_5 rfl (lv_at hl 3 rfl) ?_
  refine lv_icmp_ge (tgt := 19) hx hb dX7_power_6 (by decide) (fun _ => ?_) (fun c2950 => absurd (by decide) c2950)
  refine lv_iload_n hx hb dX7_power_19 rfl (lv_at hl 1 rfl) ?_
  exact W.iret (v := 10000) hx hb hr (fun t ht hW => ⟨⟨10000, (), rfl, rfl, cE.of ht hP hD [] (by decide) rfl⟩, hS.F ht⟩) hS.2.2 dX7_power_20
def wo_k_X7_divisor_v3 : List Cond := []
def wq_k_X7_divisor_v3 : List Cond := .code yX7_divisor cX7_divisor 5 (some .int) :: (wo_k_X7_divisor_v3 ++ [])
theorem gd_k_X7_divisor_v3 : Gd wq_k_X7_divisor_v3 := gd_c (gd_a (gd_o (by decide +kernel)) gd_0)
abbrev wc_k_X7_divisor_v3 (cyB cyI cyJ cyZ cyO : ClassId) : va_W := []
set_option maxHeartbeats 4000000 in
set_option maxRecDepth 100000 in
theorem k_X7_divisor_v3 (l : Launch) (dC : Nat → ClassId) (dI : Nat → Nat → Nat) (cyB cyI cyJ cyZ cyO : ClassId) (sz : Nat) : Met l yX7_divisor wq_k_X7_divisor_v3 ({ frames := 0, cells := 0, slots := 0, locals := 0 }) (va_Pc [.int 10000, .int 10000] (cB (dC, dI) (kT cyB cyI cyJ cyZ cyO) (wc_k_X7_divisor_v3 cyB cyI cyJ cyZ cyO) sz)) (va_Qi (fun (r : Int32) _ => r = 10000) (fun (u : Unit) t => cE (dC, dI) (va_A (wc_k_X7_divisor_v3 cyB cyI cyJ cyZ cyO) sz) ([]) t.heap) (va_A (wc_k_X7_divisor_v3 cyB cyI cyJ cyZ cyO) sz)) 0 0 (va_A (wc_k_X7_divisor_v3 cyB cyI cyJ cyZ cyO) sz) := by
  refine Met.ofW (cc := cX7_divisor) (maxL := 5) (ret := (some .int)) (by decide) rfl ?_
  intro p e s m args below meth c s₁ B hml hv
  obtain ⟨rfl, hsz, hP, hKN, hD0⟩ := hv
  have hx := B.exec
  have hb := B.bytes
  have hr := B.returns
  have hts := atoms_spec (ws := wq_k_X7_divisor_v3) B.pre
  have hown : s.vm.findClass RX7 = some m.cls := findClass_of_methodNamed B.named
  have hlocks := B.notSynchronized
  have hK := hKN.1
  have hfix : CallFix p m c cX7_divisor 5 s [.int 10000, .int 10000].toArray wq_k_X7_divisor_v3 RX7 := ⟨hx, hb, hml, hown, hts⟩
  subst hsz
  have hD := hD0.self (sz := s.heap.size)
  generalize hAe : va_A (wc_k_X7_divisor_v3 cyB cyI cyJ cyZ cyO) s.heap.size = A at hD ⊢
  have hA : ∀ q : Nat, s.heap.size ≤ q → A q := fun q h => by rw [← hAe]; exact Or.inr h
  have hS : va_S A s.heap s.heap [] := va_S.rf
  have hl := lv_entry ([.int 10000, .int 10000]) (n := 5) (Nat.le_of_ble_eq_true rfl)
  rw [lg_entry_eq]
  generalize (lg_sl ([.int 10000, .int 10000]) ++ List.replicate (5 - (lg_sl ([.int 10000, .int 10000])).length) Slot.unset).toArray = ls at hl ⊢
  have hl : lv_has ls 5 [(0, .int 10000), (1, .int 10000)] := hl
  refine lv_iload_n hx hb dX7_divisor_0 rfl (lv_at hl 0 rfl) ?_
  refine lv_istore_n (lv' := [(2, .int 10000), (0, .int 10000), (1, .int 10000)]) hx hb dX7_divisor_1 rfl hl (by decide) rfl (fun ls hl => ?_)
  refine lv_iload_n hx hb dX7_divisor_2 rfl (lv_at hl 2 rfl) ?_
  refine lv_istore_n (lv' := [(3, .int 10000), (2, .int 10000), (0, .int 10000), (1, .int 10000)]) hx hb dX7_divisor_3 rfl hl (by decide) rfl (fun ls hl => ?_)
  refine lv_iload_n hx hb dX7_divisor_4 rfl (lv_at hl 0 rfl) ?_
  refine lv_if_le (tgt := 21) hx hb dX7_divisor_5 (by decide) (fun c2961 => absurd c2961 (by decide)) (fun _ => ?_)
  refine lv_iload_n hx hb dX7_divisor_8 rfl (lv_at hl 1 rfl) ?_
  refine lv_iload_n hx hb dX7_divisor_9 rfl (lv_at hl 0 rfl) ?_
  refine lv_irem hx hb dX7_divisor_10 (by decide) ?_
  refine tp_c (w := 0) (by decide) ?_
  refine lv_istore (lv' := [(4, .int 0), (3, .int 10000), (2, .int 10000), (0, .int 10000), (1, .int 10000)]) hx hb dX7_divisor_11 hl (by decide) rfl (fun ls hl => ?_)
  refine lv_iload_n hx hb dX7_divisor_13 rfl (lv_at hl 1 rfl) ?_
  refine lv_istore_n (lv' := [(2, .int 10000), (4, .int 0), (3, .int 10000), (0, .int 10000), (1, .int 10000)]) hx hb dX7_divisor_14 rfl hl (by decide) rfl (fun ls hl => ?_)
  refine lv_iload hx hb dX7_divisor_15 (lv_at hl 1 rfl) ?_
  refine lv_istore_n (lv' := [(3, .int 0), (2, .int 10000), (4, .int 0), (0, .int 10000), (1, .int 10000)]) hx hb dX7_divisor_17 rfl hl (by decide) rfl (fun ls hl => ?_)
  refine lv_goto (tgt := 4) hx hb dX7_divisor_18 (by decide) ?_
  refine lv_iload_n hx hb dX7_divisor_4 rfl (lv_at hl 0 rfl) ?_
  refine lv_if_le (tgt := 21) hx hb dX7_divisor_5 (by decide) (fun _ => ?_) (fun c2962 => absurd (by decide) c2962)
  refine lv_iload_n hx hb dX7_divisor_21 rfl (lv_at hl 1 rfl) ?_
  exact W.iret (v := 10000) hx hb hr (fun t ht hW => ⟨⟨10000, (), rfl, rfl, cE.of ht hP hD [] (by decide) rfl⟩, hS.F ht⟩) hS.2.2 dX7_divisor_22
def wo_k_X7_isIn_v10 : List Cond := []
def wq_k_X7_isIn_v10 : List Cond := .code yX7_isIn cX7_isIn 3 (some .boolean) :: (wo_k_X7_isIn_v10 ++ [])
theorem gd_k_X7_isIn_v10 : Gd wq_k_X7_isIn_v10 := gd_c (gd_a (gd_o (by decide +kernel)) gd_0)
abbrev wc_k_X7_isIn_v10 (cyB cyI cyJ cyZ cyO : ClassId) : va_W := []
set_option maxHeartbeats 4000000 in
set_option maxRecDepth 100000 in
theorem k_X7_isIn_v10 (l : Launch) (dC : Nat → ClassId) (dI : Nat → Nat → Nat) (cyB cyI cyJ cyZ cyO : ClassId) (sz : Nat) : Met l yX7_isIn wq_k_X7_isIn_v10 ({ frames := 0, cells := 0, slots := 0, locals := 0 }) (va_Pc [.int 3, .int 0, .int 4] (cB (dC, dI) (kT cyB cyI cyJ cyZ cyO) (wc_k_X7_isIn_v10 cyB cyI cyJ cyZ cyO) sz)) (va_Qi (fun (r : Int32) _ => r = 1) (fun (u : Unit) t => cE (dC, dI) (va_A (wc_k_X7_isIn_v10 cyB cyI cyJ cyZ cyO) sz) ([]) t.heap) (va_A (wc_k_X7_isIn_v10 cyB cyI cyJ cyZ cyO) sz)) 0 0 (va_A (wc_k_X7_isIn_v10 cyB cyI cyJ cyZ cyO) sz) := by
  refine Met.ofW (cc := cX7_isIn) (maxL := 3) (ret := (some .boolean)) (by decide) rfl ?_
  intro p e s m args below meth c s₁ B hml hv
  obtain ⟨rfl, hsz, hP, hKN, hD0⟩ := hv
  have hx := B.exec
  have hb := B.bytes
  have hr := B.returns
  have hts := atoms_spec (ws := wq_k_X7_isIn_v10) B.pre
  have hown : s.vm.findClass RX7 = some m.cls := findClass_of_methodNamed B.named
  have hlocks := B.notSynchronized
  have hK := hKN.1
  have hfix : CallFix p m c cX7_isIn 3 s [.int 3, .int 0, .int 4].toArray wq_k_X7_isIn_v10 RX7 := ⟨hx, hb, hml, hown, hts⟩
  subst hsz
  have hD := hD0.self (sz := s.heap.size)
  generalize hAe : va_A (wc_k_X7_isIn_v10 cyB cyI cyJ cyZ cyO) s.heap.size = A at hD ⊢
  have hA : ∀ q : Nat, s.heap.size ≤ q → A q := fun q h => by rw [← hAe]; exact Or.inr h
  have hS : va_S A s.heap s.heap [] := va_S.rf
  have hl := lv_entry ([.int 3, .int 0, .int 4]) (n := 3) (Nat.le_of_ble_eq_true rfl)
  rw [lg_entry_eq]
  generalize (lg_sl ([.int 3, .int 0, .int 4]) ++ List.replicate (3 - (lg_sl ([.int 3, .int 0, .int 4])).length) Slot.unset).toArray = ls at hl ⊢
  have hl : lv_has ls 3 [(0, .int 3), (1, .int 0), (2, .int 4)] := hl
  refine lv_iload_n hx hb dX7_isIn_0 rfl (lv_at hl 0 rfl) ?_
  refine lv_iload_n hx hb dX7_isIn_1 rfl (lv_at hl 1 rfl) ?_
  refine lv_icmp_lt (tgt := 14) hx hb dX7_isIn_2 (by decide) (fun c2972 => absurd c2972 (by decide)) (fun _ => ?_)
  refine lv_iload_n hx hb dX7_isIn_5 rfl (lv_at hl 0 rfl) ?_
  refine lv_iload_n hx hb dX7_isIn_6 rfl (lv_at hl 2 rfl) ?_
  refine lv_icmp_gt (tgt := 14) hx hb dX7_isIn_7 (by decide) (fun c2973 => absurd c2973 (by decide)) (fun _ => ?_)
  refine lv_iconst (v := 1) hx hb dX7_isIn_10 (by decide) ?_
  refine lv_goto (tgt := 15) hx hb dX7_isIn_11 (by decide) ?_
  exact W.zret (v := 1) hx hb hr (by decide) (fun t ht hW => ⟨⟨1, (), rfl, rfl, cE.of ht hP hD [] (by decide) rfl⟩, hS.F ht⟩) hS.2.2 dX7_isIn_15
def wo_k_X7_power_v4 : List Cond := []
def wq_k_X7_power_v4 : List Cond := .code yX7_power cX7_power 4 (some .int) :: (wo_k_X7_power_v4 ++ [])
theorem gd_k_X7_power_v4 : Gd wq_k_X7_power_v4 := gd_c (gd_a (gd_o (by decide +kernel)) gd_0)
abbrev wc_k_X7_power_v4 (cyB cyI cyJ cyZ cyO : ClassId) : va_W := []
set_option maxHeartbeats 4000000 in
set_option maxRecDepth 100000 in
theorem k_X7_power_v4 (l : Launch) (dC : Nat → ClassId) (dI : Nat → Nat → Nat) (cyB cyI cyJ cyZ cyO : ClassId) (sz : Nat) : Met l yX7_power wq_k_X7_power_v4 ({ frames := 0, cells := 0, slots := 0, locals := 0 }) (va_Pc [.int 100, .int 3] (cB (dC, dI) (kT cyB cyI cyJ cyZ cyO) (wc_k_X7_power_v4 cyB cyI cyJ cyZ cyO) sz)) (va_Qi (fun (r : Int32) _ => r = 1000000) (fun (u : Unit) t => cE (dC, dI) (va_A (wc_k_X7_power_v4 cyB cyI cyJ cyZ cyO) sz) ([]) t.heap) (va_A (wc_k_X7_power_v4 cyB cyI cyJ cyZ cyO) sz)) 0 0 (va_A (wc_k_X7_power_v4 cyB cyI cyJ cyZ cyO) sz) := by
  refine Met.ofW (cc := cX7_power) (maxL := 4) (ret := (some .int)) (by decide) rfl ?_
  intro p e s m args below meth c s₁ B hml hv
  obtain ⟨rfl, hsz, hP, hKN, hD0⟩ := hv
  have hx := B.exec
  have hb := B.bytes
  have hr := B.returns
  have hts := atoms_spec (ws := wq_k_X7_power_v4) B.pre
  have hown : s.vm.findClass RX7 = some m.cls := findClass_of_methodNamed B.named
  have hlocks := B.notSynchronized
  have hK := hKN.1
  have hfix : CallFix p m c cX7_power 4 s [.int 100, .int 3].toArray wq_k_X7_power_v4 RX7 := ⟨hx, hb, hml, hown, hts⟩
  subst hsz
  have hD := hD0.self (sz := s.heap.size)
  generalize hAe : va_A (wc_k_X7_power_v4 cyB cyI cyJ cyZ cyO) s.heap.size = A at hD ⊢
  have hA : ∀ q : Nat, s.heap.size ≤ q → A q := fun q h => by rw [← hAe]; exact Or.inr h
  have hS : va_S A s.heap s.heap [] := va_S.rf
  have hl := lv_entry ([.int 100, .int 3]) (n := 4) (Nat.le_of_ble_eq_true rfl)
  rw [lg_entry_eq]
  generalize (lg_sl ([.int 100, .int 3]) ++ List.replicate (4 - (lg_sl ([.int 100, .int 3])).length) Slot.unset).toArray = ls at hl ⊢
  have hl : lv_has ls 4 [(0, .int 100), (1, .int 3)] := hl
  refine lv_iconst (v := 1) hx hb dX7_power_0 (by decide) ?_
  refine lv_istore_n (lv' := [(2, .int 1), (0, .int 100), (1, .int 3)]) hx hb dX7_power_1 rfl hl (by decide) rfl (fun ls hl => ?_)
  refine lv_iconst (v := 0) hx hb dX7_power_2 (by decide) ?_
  refine lv_istore_n (lv' := [(3, .int 0), (2, .int 1), (0, .int 100), (1, .int 3)]) hx hb dX7_power_3 rfl hl (by decide) rfl (fun ls hl => ?_)
  refine lv_iload_n hx hb dX7_power_4 rfl (lv_at hl 0 rfl) ?_
  refine lv_iload_n hx hb dX7_power_5 rfl (lv_at hl 3 rfl) ?_
  refine lv_icmp_ge (tgt := 19) hx hb dX7_power_6 (by decide) (fun c2993 => absurd c2993 (by decide)) (fun _ => ?_)
  refine lv_iload_n hx hb dX7_power_9 rfl (lv_at hl 1 rfl) ?_
  refine lv_iload_n hx hb dX7_power_10 rfl (lv_at hl 2 rfl) ?_
  refine lv_imul hx hb dX7_power_11 ?_
  refine tp_c (w := 100) (by decide) ?_
  refine lv_istore_n (lv' := [(2, .int 100), (3, .int 0), (0, .int 100), (1, .int 3)]) hx hb dX7_power_12 rfl hl (by decide) rfl (fun ls hl => ?_)
  refine lv_iinc (v := 1) (lv' := [(3, .int 1), (2, .int 100), (0, .int 100), (1, .int 3)]) hx hb dX7_power_13 hl (k := 1) rfl (by decide) (by decide) rfl (fun ls hl => ?_)
  refine lv_goto (tgt := 4) hx hb dX7_power_16 (by decide) ?_
  refine lv_iload_n hx hb dX7_power_4 rfl (lv_at hl 0 rfl) ?_
  refine lv_iload_n hx hb dX7_power_5 rfl (lv_at hl 3 rfl) ?_
  refine lv_icmp_ge (tgt := 19) hx hb dX7_power_6 (by decide) (fun c2994 => absurd c2994 (by decide)) (fun _ => ?_)
  refine lv_iload_n hx hb dX7_power_9 rfl (lv_at hl 1 rfl) ?_
  refine lv_iload_n hx hb dX7_power_10 rfl (lv_at hl 2 rfl) ?_
  refine lv_imul hx hb dX7_power_11 ?_
  refine tp_c (w := 10000) (by decide) ?_
  refine lv_istore_n (lv' := [(2, .int 10000), (3, .int 1), (0, .int 100), (1, .int 3)]) hx hb dX7_power_12 rfl hl (by decide) rfl (fun ls hl => ?_)
  refine lv_iinc (v := 2) (lv' := [(3, .int 2), (2, .int 10000), (0, .int 100), (1, .int 3)]) hx hb dX7_power_13 hl (k := 1) rfl (by decide) (by decide) rfl (fun ls hl => ?_)
  refine lv_goto (tgt := 4) hx hb dX7_power_16 (by decide) ?_
  refine lv_iload_n hx hb dX7_power_4 rfl (lv_at hl 0 rfl) ?_
  refine lv_iload_n hx hb dX7_power_5 rfl (lv_at hl 3 rfl) ?_
  refine lv_icmp_ge (tgt := 19) hx hb dX7_power_6 (by decide) (fun c2995 => absurd c2995 (by decide)) (fun _ => ?_)
  refine lv_iload_n hx hb dX7_power_9 rfl (lv_at hl 1 rfl) ?_
  refine lv_iload_n hx hb dX7_power_10 rfl (lv_at hl 2 rfl) ?_
  refine lv_imul hx hb dX7_power_11 ?_
  refine tp_c (w := 1000000) (by decide) ?_
  refine lv_istore_n (lv' := [(2, .int 1000000), (3, .int 2), (0, .int 100), (1, .int 3)]) hx hb dX7_power_12 rfl hl (by decide) rfl (fun ls hl => ?_)
  refine lv_iinc (v := 3) (lv' := [(3, .int 3), (2, .int 1000000), (0, .int 100), (1, .int 3)]) hx hb dX7_power_13 hl (k := 1) rfl (by decide) (by decide) rfl (fun ls hl => ?_)
  refine lv_goto (tgt := 4) hx hb dX7_power_16 (by decide) ?_
  refine lv_iload_n hx hb dX7_power_4 rfl (lv_at hl 0 rfl) ?_
  refine lv_iload_n hx hb dX7_power_5 rfl (lv_at hl 3 rfl) ?_
  refine lv_icmp_ge (tgt := 19) hx hb dX7_power_6 (by decide) (fun _ => ?_) (fun c2996 => absurd (by decide) c2996)
  refine lv_iload_n hx hb dX7_power_19 rfl (lv_at hl 1 rfl) ?_
  exact W.iret (v := 1000000) hx hb hr (fun t ht hW => ⟨⟨1000000, (), rfl, rfl, cE.of ht hP hD [] (by decide) rfl⟩, hS.F ht⟩) hS.2.2 dX7_power_20
def wo_k_X7_divisor_v4 : List Cond := []
def wq_k_X7_divisor_v4 : List Cond := .code yX7_divisor cX7_divisor 5 (some .int) :: (wo_k_X7_divisor_v4 ++ [])
theorem gd_k_X7_divisor_v4 : Gd wq_k_X7_divisor_v4 := gd_c (gd_a (gd_o (by decide +kernel)) gd_0)
abbrev wc_k_X7_divisor_v4 (cyB cyI cyJ cyZ cyO : ClassId) : va_W := []
set_option maxHeartbeats 4000000 in
set_option maxRecDepth 100000 in
theorem k_X7_divisor_v4 (l : Launch) (dC : Nat → ClassId) (dI : Nat → Nat → Nat) (cyB cyI cyJ cyZ cyO : ClassId) (sz : Nat) : Met l yX7_divisor wq_k_X7_divisor_v4 ({ frames := 0, cells := 0, slots := 0, locals := 0 }) (va_Pc [.int 1000000, .int 1000000] (cB (dC, dI) (kT cyB cyI cyJ cyZ cyO) (wc_k_X7_divisor_v4 cyB cyI cyJ cyZ cyO) sz)) (va_Qi (fun (r : Int32) _ => r = 1000000) (fun (u : Unit) t => cE (dC, dI) (va_A (wc_k_X7_divisor_v4 cyB cyI cyJ cyZ cyO) sz) ([]) t.heap) (va_A (wc_k_X7_divisor_v4 cyB cyI cyJ cyZ cyO) sz)) 0 0 (va_A (wc_k_X7_divisor_v4 cyB cyI cyJ cyZ cyO) sz) := by
  refine Met.ofW (cc := cX7_divisor) (maxL := 5) (ret := (some .int)) (by decide) rfl ?_
  intro p e s m args below meth c s₁ B hml hv
  obtain ⟨rfl, hsz, hP, hKN, hD0⟩ := hv
  have hx := B.exec
  have hb := B.bytes
  have hr := B.returns
  have hts := atoms_spec (ws := wq_k_X7_divisor_v4) B.pre
  have hown : s.vm.findClass RX7 = some m.cls := findClass_of_methodNamed B.named
  have hlocks := B.notSynchronized
  have hK := hKN.1
  have hfix : CallFix p m c cX7_divisor 5 s [.int 1000000, .int 1000000].toArray wq_k_X7_divisor_v4 RX7 := ⟨hx, hb, hml, hown, hts⟩
  subst hsz
  have hD := hD0.self (sz := s.heap.size)
  generalize hAe : va_A (wc_k_X7_divisor_v4 cyB cyI cyJ cyZ cyO) s.heap.size = A at hD ⊢
  have hA : ∀ q : Nat, s.heap.size ≤ q → A q := fun q h => by rw [← hAe]; exact Or.inr h
  have hS : va_S A s.heap s.heap [] := va_S.rf
  have hl := lv_entry ([.int 1000000, .int 1000000]) (n := 5) (Nat.le_of_ble_eq_true rfl)
  rw [lg_entry_eq]
  generalize (lg_sl ([.int 1000000, .int 1000000]) ++ List.replicate (5 - (lg_sl ([.int 1000000, .int 1000000])).length) Slot.unset).toArray = ls at hl ⊢
  have hl : lv_has ls 5 [(0, .int 1000000), (1, .int 1000000)] := hl
  refine lv_iload_n hx hb dX7_divisor_0 rfl (lv_at hl 0 rfl) ?_
  refine lv_istore_n (lv' := [(2, .int 1000000), (0, .int 1000000), (1, .int 1000000)]) hx hb dX7_divisor_1 rfl hl (by decide) rfl (fun ls hl => ?_)
  refine lv_iload_n hx hb dX7_divisor_2 rfl (lv_at hl 2 rfl) ?_
  refine lv_istore_n (lv' := [(3, .int 1000000), (2, .int 1000000), (0, .int 1000000), (1, .int 1000000)]) hx hb dX7_divisor_3 rfl hl (by decide) rfl (fun ls hl => ?_)
  refine lv_iload_n hx hb dX7_divisor_4 rfl (lv_at hl 0 rfl) ?_
  refine lv_if_le (tgt := 21) hx hb dX7_divisor_5 (by decide) (fun c3008 => absurd c3008 (by decide)) (fun _ => ?_)
  refine lv_iload_n hx hb dX7_divisor_8 rfl (lv_at hl 1 rfl) ?_
  refine lv_iload_n hx hb dX7_divisor_9 rfl (lv_at hl 0 rfl) ?_
  refine lv_irem hx hb dX7_divisor_10 (by decide) ?_
  refine tp_c (w := 0) (by decide) ?_
  refine lv_istore (lv' := [(4, .int 0), (3, .int 1000000), (2, .int 1000000), (0, .int 1000000), (1, .int 1000000)]) hx hb dX7_divisor_11 hl (by decide) rfl (fun ls hl => ?_)
  refine lv_iload_n hx hb dX7_divisor_13 rfl (lv_at hl 1 rfl) ?_
  refine lv_istore_n (lv' := [(2, .int 1000000), (4, .int 0), (3, .int 1000000), (0, .int 1000000), (1, .int 1000000)]) hx hb dX7_divisor_14 rfl hl (by decide) rfl (fun ls hl => ?_)
  refine lv_iload hx hb dX7_divisor_15 (lv_at hl 1 rfl) ?_
  refine lv_istore_n (lv' := [(3, .int 0), (2, .int 1000000), (4, .int 0), (0, .int 1000000), (1, .int 1000000)]) hx hb dX7_divisor_17 rfl hl (by decide) rfl (fun ls hl => ?_)
  refine lv_goto (tgt := 4) hx hb dX7_divisor_18 (by decide) ?_
  refine lv_iload_n hx hb dX7_divisor_4 rfl (lv_at hl 0 rfl) ?_
  refine lv_if_le (tgt := 21) hx hb dX7_divisor_5 (by decide) (fun _ => ?_) (fun c3009 => absurd (by decide) c3009)
  refine lv_iload_n hx hb dX7_divisor_21 rfl (lv_at hl 1 rfl) ?_
  exact W.iret (v := 1000000) hx hb hr (fun t ht hW => ⟨⟨1000000, (), rfl, rfl, cE.of ht hP hD [] (by decide) rfl⟩, hS.F ht⟩) hS.2.2 dX7_divisor_22
def wo_k_X7_isIn_v11 : List Cond := []
def wq_k_X7_isIn_v11 : List Cond := .code yX7_isIn cX7_isIn 3 (some .boolean) :: (wo_k_X7_isIn_v11 ++ [])
theorem gd_k_X7_isIn_v11 : Gd wq_k_X7_isIn_v11 := gd_c (gd_a (gd_o (by decide +kernel)) gd_0)
abbrev wc_k_X7_isIn_v11 (cyB cyI cyJ cyZ cyO : ClassId) : va_W := []
set_option maxHeartbeats 4000000 in
set_option maxRecDepth 100000 in
theorem k_X7_isIn_v11 (l : Launch) (dC : Nat → ClassId) (dI : Nat → Nat → Nat) (cyB cyI cyJ cyZ cyO : ClassId) (sz : Nat) : Met l yX7_isIn wq_k_X7_isIn_v11 ({ frames := 0, cells := 0, slots := 0, locals := 0 }) (va_Pc [.int 4, .int 0, .int 4] (cB (dC, dI) (kT cyB cyI cyJ cyZ cyO) (wc_k_X7_isIn_v11 cyB cyI cyJ cyZ cyO) sz)) (va_Qi (fun (r : Int32) _ => r = 1) (fun (u : Unit) t => cE (dC, dI) (va_A (wc_k_X7_isIn_v11 cyB cyI cyJ cyZ cyO) sz) ([]) t.heap) (va_A (wc_k_X7_isIn_v11 cyB cyI cyJ cyZ cyO) sz)) 0 0 (va_A (wc_k_X7_isIn_v11 cyB cyI cyJ cyZ cyO) sz) := by
  refine Met.ofW (cc := cX7_isIn) (maxL := 3) (ret := (some .boolean)) (by decide) rfl ?_
  intro p e s m args below meth c s₁ B hml hv
  obtain ⟨rfl, hsz, hP, hKN, hD0⟩ := hv
  have hx := B.exec
  have hb := B.bytes
  have hr := B.returns
  have hts := atoms_spec (ws := wq_k_X7_isIn_v11) B.pre
  have hown : s.vm.findClass RX7 = some m.cls := findClass_of_methodNamed B.named
  have hlocks := B.notSynchronized
  have hK := hKN.1
  have hfix : CallFix p m c cX7_isIn 3 s [.int 4, .int 0, .int 4].toArray wq_k_X7_isIn_v11 RX7 := ⟨hx, hb, hml, hown, hts⟩
  subst hsz
  have hD := hD0.self (sz := s.heap.size)
  generalize hAe : va_A (wc_k_X7_isIn_v11 cyB cyI cyJ cyZ cyO) s.heap.size = A at hD ⊢
  have hA : ∀ q : Nat, s.heap.size ≤ q → A q := fun q h => by rw [← hAe]; exact Or.inr h
  have hS : va_S A s.heap s.heap [] := va_S.rf
  have hl := lv_entry ([.int 4, .int 0, .int 4]) (n := 3) (Nat.le_of_ble_eq_true rfl)
  rw [lg_entry_eq]
  generalize (lg_sl ([.int 4, .int 0, .int 4]) ++ List.replicate (3 - (lg_sl ([.int 4, .int 0, .int 4])).length) Slot.unset).toArray = ls at hl ⊢
  have hl : lv_has ls 3 [(0, .int 4), (1, .int 0), (2, .int 4)] := hl
  refine lv_iload_n hx hb dX7_isIn_0 rfl (lv_at hl 0 rfl) ?_
  refine lv_iload_n hx hb dX7_isIn_1 rfl (lv_at hl 1 rfl) ?_
  refine lv_icmp_lt (tgt := 14) hx hb dX7_isIn_2 (by decide) (fun c3019 => absurd c3019 (by decide)) (fun _ => ?_)
  refine lv_iload_n hx hb dX7_isIn_5 rfl (lv_at hl 0 rfl) ?_
  refine lv_iload_n hx hb dX7_isIn_6 rfl (lv_at hl 2 rfl) ?_
  refine lv_icmp_gt (tgt := 14) hx hb dX7_isIn_7 (by decide) (fun c3020 => absurd c3020 (by decide)) (fun _ => ?_)
  refine lv_iconst (v := 1) hx hb dX7_isIn_10 (by decide) ?_
  refine lv_goto (tgt := 15) hx hb dX7_isIn_11 (by decide) ?_
  exact W.zret (v := 1) hx hb hr (by decide) (fun t ht hW => ⟨⟨1, (), rfl, rfl, cE.of ht hP hD [] (by decide) rfl⟩, hS.F ht⟩) hS.2.2 dX7_isIn_15
def wo_k_X7_power_v5 : List Cond := []
def wq_k_X7_power_v5 : List Cond := .code yX7_power cX7_power 4 (some .int) :: (wo_k_X7_power_v5 ++ [])
theorem gd_k_X7_power_v5 : Gd wq_k_X7_power_v5 := gd_c (gd_a (gd_o (by decide +kernel)) gd_0)
abbrev wc_k_X7_power_v5 (cyB cyI cyJ cyZ cyO : ClassId) : va_W := []
set_option maxHeartbeats 4000000 in
set_option maxRecDepth 100000 in
theorem k_X7_power_v5 (l : Launch) (dC : Nat → ClassId) (dI : Nat → Nat → Nat) (cyB cyI cyJ cyZ cyO : ClassId) (sz : Nat) : Met l yX7_power wq_k_X7_power_v5 ({ frames := 0, cells := 0, slots := 0, locals := 0 }) (va_Pc [.int 100, .int 4] (cB (dC, dI) (kT cyB cyI cyJ cyZ cyO) (wc_k_X7_power_v5 cyB cyI cyJ cyZ cyO) sz)) (va_Qi (fun (r : Int32) _ => r = 100000000) (fun (u : Unit) t => cE (dC, dI) (va_A (wc_k_X7_power_v5 cyB cyI cyJ cyZ cyO) sz) ([]) t.heap) (va_A (wc_k_X7_power_v5 cyB cyI cyJ cyZ cyO) sz)) 0 0 (va_A (wc_k_X7_power_v5 cyB cyI cyJ cyZ cyO) sz) := by
  refine Met.ofW (cc := cX7_power) (maxL := 4) (ret := (some .int)) (by decide) rfl ?_
  intro p e s m args below meth c s₁ B hml hv
  obtain ⟨rfl, hsz, hP, hKN, hD0⟩ := hv
  have hx := B.exec
  have hb := B.bytes
  have hr := B.returns
  have hts := atoms_spec (ws := wq_k_X7_power_v5) B.pre
  have hown : s.vm.findClass RX7 = some m.cls := findClass_of_methodNamed B.named
  have hlocks := B.notSynchronized
  have hK := hKN.1
  have hfix : CallFix p m c cX7_power 4 s [.int 100, .int 4].toArray wq_k_X7_power_v5 RX7 := ⟨hx, hb, hml, hown, hts⟩
  subst hsz
  have hD := hD0.self (sz := s.heap.size)
  generalize hAe : va_A (wc_k_X7_power_v5 cyB cyI cyJ cyZ cyO) s.heap.size = A at hD ⊢
  have hA : ∀ q : Nat, s.heap.size ≤ q → A q := fun q h => by rw [← hAe]; exact Or.inr h
  have hS : va_S A s.heap s.heap [] := va_S.rf
  have hl := lv_entry ([.int 100, .int 4]) (n := 4) (Nat.le_of_ble_eq_true rfl)
  rw [lg_entry_eq]
  generalize (lg_sl ([.int 100, .int 4]) ++ List.replicate (4 - (lg_sl ([.int 100, .int 4])).length) Slot.unset).toArray = ls at hl ⊢
  have hl : lv_has ls 4 [(0, .int 100), (1, .int 4)] := hl
  refine lv_iconst (v := 1) hx hb dX7_power_0 (by decide) ?_
  refine lv_istore_n (lv' := [(2, .int 1), (0, .int 100), (1, .int 4)]) hx hb dX7_power_1 rfl hl (by decide) rfl (fun ls hl => ?_)
  refine lv_iconst (v := 0) hx hb dX7_power_2 (by decide) ?_
  refine lv_istore_n (lv' := [(3, .int 0), (2, .int 1), (0, .int 100), (1, .int 4)]) hx hb dX7_power_3 rfl hl (by decide) rfl (fun ls hl => ?_)
  refine lv_iload_n hx hb dX7_power_4 rfl (lv_at hl 0 rfl) ?_
  refine lv_iload_n hx hb dX7_power_5 rfl (lv_at hl 3 rfl) ?_
  refine lv_icmp_ge (tgt := 19) hx hb dX7_power_6 (by decide) (fun c3041 => absurd c3041 (by decide)) (fun _ => ?_)
  refine lv_iload_n hx hb dX7_power_9 rfl (lv_at hl 1 rfl) ?_
  refine lv_iload_n hx hb dX7_power_10 rfl (lv_at hl 2 rfl) ?_
  refine lv_imul hx hb dX7_power_11 ?_
  refine tp_c (w := 100) (by decide) ?_
  refine lv_istore_n (lv' := [(2, .int 100), (3, .int 0), (0, .int 100), (1, .int 4)]) hx hb dX7_power_12 rfl hl (by decide) rfl (fun ls hl => ?_)
  refine lv_iinc (v := 1) (lv' := [(3, .int 1), (2, .int 100), (0, .int 100), (1, .int 4)]) hx hb dX7_power_13 hl (k := 1) rfl (by decide) (by decide) rfl (fun ls hl => ?_)
  refine lv_goto (tgt := 4) hx hb dX7_power_16 (by decide) ?_
  refine lv_iload_n hx hb dX7_power_4 rfl (lv_at hl 0 rfl) ?_
  refine lv_iload_n hx hb dX7_power_5 rfl (lv_at hl 3 rfl) ?_
  refine lv_icmp_ge (tgt := 19) hx hb dX7_power_6 (by decide) (fun c3042 => absurd c3042 (by decide)) (fun _ => ?_)
  refine lv_iload_n hx hb dX7_power_9 rfl (lv_at hl 1 rfl) ?_
  refine lv_iload_n hx hb dX7_power_10 rfl (lv_at hl 2 rfl) ?_
  refine lv_imul hx hb dX7_power_11 ?_
  refine tp_c (w := 10000) (by decide) ?_
  refine lv_istore_n (lv' := [(2, .int 10000), (3, .int 1), (0, .int 100), (1, .int 4)]) hx hb dX7_power_12 rfl hl (by decide) rfl (fun ls hl => ?_)
  refine lv_iinc (v := 2) (lv' := [(3, .int 2), (2, .int 10000), (0, .int 100), (1, .int 4)]) hx hb dX7_power_13 hl (k := 1) rfl (by decide) (by decide) rfl (fun ls hl => ?_)
  refine lv_goto (tgt := 4) hx hb dX7_power_16 (by decide) ?_
  refine lv_iload_n hx hb dX7_power_4 rfl (lv_at hl 0 rfl) ?_
  refine lv_iload_n hx hb dX7_power_5 rfl (lv_at hl 3 rfl) ?_
  refine lv_icmp_ge (tgt := 19) hx hb dX7_power_6 (by decide) (fun c3043 => absurd c3043 (by decide)) (fun _ => ?_)
  refine lv_iload_n hx hb dX7_power_9 rfl (lv_at hl 1 rfl) ?_
  refine lv_iload_n hx hb dX7_power_10 rfl (lv_at hl 2 rfl) ?_
  refine lv_imul hx hb dX7_power_11 ?_
  refine tp_c (w := 1000000) (by decide) ?_
  refine lv_istore_n (lv' := [(2, .int 1000000), (3, .int 2), (0, .int 100), (1, .int 4)]) hx hb dX7_power_12 rfl hl (by decide) rfl (fun ls hl => ?_)
  refine lv_iinc (v := 3) (lv' := [(3, .int 3), (2, .int 1000000), (0, .int 100), (1, .int 4)]) hx hb dX7_power_13 hl (k := 1) rfl (by decide) (by decide) rfl (fun ls hl => ?_)
  refine lv_goto (tgt := 4) hx hb dX7_power_16 (by decide) ?_
  refine lv_iload_n hx hb dX7_power_4 rfl (lv_at hl 0 rfl) ?_
  refine lv_iload_n hx hb dX7_power_5 rfl (lv_at hl 3 rfl) ?_
  refine lv_icmp_ge (tgt := 19) hx hb dX7_power_6 (by decide) (fun c3044 => absurd c3044 (by decide)) (fun _ => ?_)
  refine lv_iload_n hx hb dX7_power_9 rfl (lv_at hl 1 rfl) ?_
  refine lv_iload_n hx hb dX7_power_10 rfl (lv_at hl 2 rfl) ?_
  refine lv_imul hx hb dX7_power_11 ?_
  refine tp_c (w := 100000000) (by decide) ?_
  refine lv_istore_n (lv' := [(2, .int 100000000), (3, .int 3), (0, .int 100), (1, .int 4)]) hx hb dX7_power_12 rfl hl (by decide) rfl (fun ls hl => ?_)
  refine lv_iinc (v := 4) (lv' := [(3, .int 4), (2, .int 100000000), (0, .int 100), (1, .int 4)]) hx hb dX7_power_13 hl (k := 1) rfl (by decide) (by decide) rfl (fun ls hl => ?_)
  refine lv_goto (tgt := 4) hx hb dX7_power_16 (by decide) ?_
  refine lv_iload_n hx hb dX7_power_4 rfl (lv_at hl 0 rfl) ?_
  refine lv_iload_n hx hb dX7_power_5 rfl (lv_at hl 3 rfl) ?_
  refine lv_icmp_ge (tgt := 19) hx hb dX7_power_6 (by decide) (fun _ => ?_) (fun c3045 => absurd (by decide) c3045)
  refine lv_iload_n hx hb dX7_power_19 rfl (lv_at hl 1 rfl) ?_
  exact W.iret (v := 100000000) hx hb hr (fun t ht hW => ⟨⟨100000000, (), rfl, rfl, cE.of ht hP hD [] (by decide) rfl⟩, hS.F ht⟩) hS.2.2 dX7_power_20
def wo_k_X7_divisor_v5 : List Cond := []
def wq_k_X7_divisor_v5 : List Cond := .code yX7_divisor cX7_divisor 5 (some .int) :: (wo_k_X7_divisor_v5 ++ [])
theorem gd_k_X7_divisor_v5 : Gd wq_k_X7_divisor_v5 := gd_c (gd_a (gd_o (by decide +kernel)) gd_0)
abbrev wc_k_X7_divisor_v5 (cyB cyI cyJ cyZ cyO : ClassId) : va_W := []
set_option maxHeartbeats 4000000 in
set_option maxRecDepth 100000 in
theorem k_X7_divisor_v5 (l : Launch) (dC : Nat → ClassId) (dI : Nat → Nat → Nat) (cyB cyI cyJ cyZ cyO : ClassId) (sz : Nat) : Met l yX7_divisor wq_k_X7_divisor_v5 ({ frames := 0, cells := 0, slots := 0, locals := 0 }) (va_Pc [.int 100000000, .int 100000000] (cB (dC, dI) (kT cyB cyI cyJ cyZ cyO) (wc_k_X7_divisor_v5 cyB cyI cyJ cyZ cyO) sz)) (va_Qi (fun (r : Int32) _ => r = 100000000) (fun (u : Unit) t => cE (dC, dI) (va_A (wc_k_X7_divisor_v5 cyB cyI cyJ cyZ cyO) sz) ([]) t.heap) (va_A (wc_k_X7_divisor_v5 cyB cyI cyJ cyZ cyO) sz)) 0 0 (va_A (wc_k_X7_divisor_v5 cyB cyI cyJ cyZ cyO) sz) := by
  refine Met.ofW (cc := cX7_divisor) (maxL := 5) (ret := (some .int)) (by decide) rfl ?_
  intro p e s m args below meth c s₁ B hml hv
  obtain ⟨rfl, hsz, hP, hKN, hD0⟩ := hv
  have hx := B.exec
  have hb := B.bytes
  have hr := B.returns
  have hts := atoms_spec (ws := wq_k_X7_divisor_v5) B.pre
  have hown : s.vm.findClass RX7 = some m.cls := findClass_of_methodNamed B.named
  have hlocks := B.notSynchronized
  have hK := hKN.1
  have hfix : CallFix p m c cX7_divisor 5 s [.int 100000000, .int 100000000].toArray wq_k_X7_divisor_v5 RX7 := ⟨hx, hb, hml, hown, hts⟩
  subst hsz
  have hD := hD0.self (sz := s.heap.size)
  generalize hAe : va_A (wc_k_X7_divisor_v5 cyB cyI cyJ cyZ cyO) s.heap.size = A at hD ⊢
  have hA : ∀ q : Nat, s.heap.size ≤ q → A q := fun q h => by rw [← hAe]; exact Or.inr h
  have hS : va_S A s.heap s.heap [] := va_S.rf
  have hl := lv_entry ([.int 100000000, .int 100000000]) (n := 5) (Nat.le_of_ble_eq_true rfl)
  rw [lg_entry_eq]
  generalize (lg_sl ([.int 100000000, .int 100000000]) ++ List.replicate (5 - (lg_sl ([.int 100000000, .int 100000000])).length) Slot.unset).toArray = ls at hl ⊢
  have hl : lv_has ls 5 [(0, .int 100000000), (1, .int 100000000)] := hl
  refine lv_iload_n hx hb dX7_divisor_0 rfl (lv_at hl 0 rfl) ?_
  refine lv_istore_n (lv' := [(2, .int 100000000), (0, .int 100000000), (1, .int 100000000)]) hx hb dX7_divisor_1 rfl hl (by decide) rfl (fun ls hl => ?_)
  refine lv_iload_n hx hb dX7_divisor_2 rfl (lv_at hl 2 rfl) ?_
  refine lv_istore_n (lv' := [(3, .int 100000000), (2, .int 100000000), (0, .int 100000000), (1, .int 100000000)]) hx hb dX7_divisor_3 rfl hl (by decide) rfl (fun ls hl => ?_)
  refine lv_iload_n hx hb dX7_divisor_4 rfl (lv_at hl 0 rfl) ?_
  refine lv_if_le (tgt := 21) hx hb dX7_divisor_5 (by decide) (fun c3058 => absurd c3058 (by decide)) (fun _ => ?_)
  refine lv_iload_n hx hb dX7_divisor_8 rfl (lv_at hl 1 rfl) ?_
  refine lv_iload_n hx hb dX7_divisor_9 rfl (lv_at hl 0 rfl) ?_
  refine lv_irem hx hb dX7_divisor_10 (by decide) ?_
  refine tp_c (w := 0) (by decide) ?_
  refine lv_istore (lv' := [(4, .int 0), (3, .int 100000000), (2, .int 100000000), (0, .int 100000000), (1, .int 100000000)]) hx hb dX7_divisor_11 hl (by decide) rfl (fun ls hl => ?_)
  refine lv_iload_n hx hb dX7_divisor_13 rfl (lv_at hl 1 rfl) ?_
  refine lv_istore_n (lv' := [(2, .int 100000000), (4, .int 0), (3, .int 100000000), (0, .int 100000000), (1, .int 100000000)]) hx hb dX7_divisor_14 rfl hl (by decide) rfl (fun ls hl => ?_)
  refine lv_iload hx hb dX7_divisor_15 (lv_at hl 1 rfl) ?_
  refine lv_istore_n (lv' := [(3, .int 0), (2, .int 100000000), (4, .int 0), (0, .int 100000000), (1, .int 100000000)]) hx hb dX7_divisor_17 rfl hl (by decide) rfl (fun ls hl => ?_)
  refine lv_goto (tgt := 4) hx hb dX7_divisor_18 (by decide) ?_
  refine lv_iload_n hx hb dX7_divisor_4 rfl (lv_at hl 0 rfl) ?_
  refine lv_if_le (tgt := 21) hx hb dX7_divisor_5 (by decide) (fun _ => ?_) (fun c3059 => absurd (by decide) c3059)
  refine lv_iload_n hx hb dX7_divisor_21 rfl (lv_at hl 1 rfl) ?_
  exact W.iret (v := 100000000) hx hb hr (fun t ht hW => ⟨⟨100000000, (), rfl, rfl, cE.of ht hP hD [] (by decide) rfl⟩, hS.F ht⟩) hS.2.2 dX7_divisor_22
def wo_k_X7_isIn_v12 : List Cond := []
def wq_k_X7_isIn_v12 : List Cond := .code yX7_isIn cX7_isIn 3 (some .boolean) :: (wo_k_X7_isIn_v12 ++ [])
theorem gd_k_X7_isIn_v12 : Gd wq_k_X7_isIn_v12 := gd_c (gd_a (gd_o (by decide +kernel)) gd_0)
abbrev wc_k_X7_isIn_v12 (cyB cyI cyJ cyZ cyO : ClassId) (a0 : Int32) : va_W := []
set_option maxHeartbeats 4000000 in
set_option maxRecDepth 100000 in
theorem k_X7_isIn_v12 (l : Launch) (dC : Nat → ClassId) (dI : Nat → Nat → Nat) (cyB cyI cyJ cyZ cyO : ClassId) (a0 : Int32) (sz : Nat) : Met l yX7_isIn wq_k_X7_isIn_v12 ({ frames := 0, cells := 0, slots := 0, locals := 0 }) (va_Pc [.int a0, .int 0, .int 4] (cB (dC, dI) (kT cyB cyI cyJ cyZ cyO) (wc_k_X7_isIn_v12 cyB cyI cyJ cyZ cyO a0) sz)) (va_Qi (fun (r : Int32) _ => (r = 0 ∧ a0.toInt < 0) ∨ (r = 0 ∧ 0 ≤ a0.toInt ∧ 4 < a0.toInt) ∨ (r = 1 ∧ 0 ≤ a0.toInt ∧ a0.toInt ≤ 4)) (fun (u : Unit) t => cE (dC, dI) (va_A (wc_k_X7_isIn_v12 cyB cyI cyJ cyZ cyO a0) sz) ([]) t.heap) (va_A (wc_k_X7_isIn_v12 cyB cyI cyJ cyZ cyO a0) sz)) 0 0 (va_A (wc_k_X7_isIn_v12 cyB cyI cyJ cyZ cyO a0) sz) := by
  refine Met.ofW (cc := cX7_isIn) (maxL := 3) (ret := (some .boolean)) (by decide) rfl ?_
  intro p e s m args below meth c s₁ B hml hv
  obtain ⟨rfl, hsz, hP, hKN, hD0⟩ := hv
  have hx := B.exec
  have hb := B.bytes
  have hr := B.returns
  have hts := atoms_spec (ws := wq_k_X7_isIn_v12) B.pre
  have hown : s.vm.findClass RX7 = some m.cls := findClass_of_methodNamed B.named
  have hlocks := B.notSynchronized
  have hK := hKN.1
  have hfix : CallFix p m c cX7_isIn 3 s [.int a0, .int 0, .int 4].toArray wq_k_X7_isIn_v12 RX7 := ⟨hx, hb, hml, hown, hts⟩
  subst hsz
  have hD := hD0.self (sz := s.heap.size)
  generalize hAe : va_A (wc_k_X7_isIn_v12 cyB cyI cyJ cyZ cyO a0) s.heap.size = A at hD ⊢
  have hA : ∀ q : Nat, s.heap.size ≤ q → A q := fun q h => by rw [← hAe]; exact Or.inr h
  have hS : va_S A s.heap s.heap [] := va_S.rf
  have hl := lv_entry ([.int a0, .int 0, .int 4]) (n := 3) (Nat.le_of_ble_eq_true rfl)
  rw [lg_entry_eq]
  generalize (lg_sl ([.int a0, .int 0, .int 4]) ++ List.replicate (3 - (lg_sl ([.int a0, .int 0, .int 4])).length) Slot.unset).toArray = ls at hl ⊢
  have hl : lv_has ls 3 [(0, .int a0), (1, .int 0), (2, .int 4)] := hl
  refine lv_iload_n hx hb dX7_isIn_0 rfl (lv_at hl 0 rfl) ?_
  refine lv_iload_n hx hb dX7_isIn_1 rfl (lv_at hl 1 rfl) ?_
  refine lv_icmp_lt (tgt := 14) hx hb dX7_isIn_2 (by decide) (fun c3068 => ?_) (fun c3068 => ?_)
  · have c3068 := i_lt (a := a0.toInt) (b := 0) c3068 rfl (by decide)
    refine lv_iconst (v := 0) hx hb dX7_isIn_14 (by decide) ?_
    exact W.zret (v := 0) hx hb hr (by decide) (fun t ht hW => ⟨⟨0, (), rfl, (Or.inl ⟨rfl, c3068⟩), cE.of ht hP hD [] (by decide) rfl⟩, hS.F ht⟩) hS.2.2 dX7_isIn_15
  · have c3068 := i_nlt (a := a0.toInt) (b := 0) c3068 rfl (by decide)
    refine lv_iload_n hx hb dX7_isIn_5 rfl (lv_at hl 0 rfl) ?_
    refine lv_iload_n hx hb dX7_isIn_6 rfl (lv_at hl 2 rfl) ?_
    refine lv_icmp_gt (tgt := 14) hx hb dX7_isIn_7 (by decide) (fun c3069 => ?_) (fun c3069 => ?_)
    · have c3069 := i_lt (a := 4) (b := a0.toInt) c3069 (by decide) rfl
      refine lv_iconst (v := 0) hx hb dX7_isIn_14 (by decide) ?_
      exact W.zret (v := 0) hx hb hr (by decide) (fun t ht hW => ⟨⟨0, (), rfl, (Or.inr (Or.inl ⟨rfl, c3068, c3069⟩)), cE.of ht hP hD [] (by decide) rfl⟩, hS.F ht⟩) hS.2.2 dX7_isIn_15
    · have c3069 := i_nlt (a := 4) (b := a0.toInt) c3069 (by decide) rfl
      refine lv_iconst (v := 1) hx hb dX7_isIn_10 (by decide) ?_
      refine lv_goto (tgt := 15) hx hb dX7_isIn_11 (by decide) ?_
      exact W.zret (v := 1) hx hb hr (by decide) (fun t ht hW => ⟨⟨1, (), rfl, (Or.inr (Or.inr ⟨rfl, c3068, c3069⟩)), cE.of ht hP hD [] (by decide) rfl⟩, hS.F ht⟩) hS.2.2 dX7_isIn_15
def wo_c_M_odds : List Cond := [.methodLink RX7 316 yX7_isIn, .static yX7_isIn, .initialized RX7, .fieldLink RX7 36 "ReplicaChainModel" "loss" "[I", .fieldLink RX7 214 "ReplicaChainModel" "bank" "I", .methodLink RX7 480 yX7_power, .static yX7_power, .methodLink RX7 483 yX7_divisor, .static yX7_divisor]
def wq_c_M_odds : List Cond := .code yX7_odds cX7_odds 5 (some .int) :: (wo_c_M_odds ++ (wq_k_X7_isIn_v7 ++ (wq_k_X7_isIn_v4 ++ (wq_k_X7_power ++ (wq_k_X7_divisor ++ (wq_k_X7_isIn_v8 ++ (wq_k_X7_power_v2 ++ (wq_k_X7_divisor_v2 ++ (wq_k_X7_isIn_v9 ++ (wq_k_X7_power_v3 ++ (wq_k_X7_divisor_v3 ++ (wq_k_X7_isIn_v10 ++ (wq_k_X7_power_v4 ++ (wq_k_X7_divisor_v4 ++ (wq_k_X7_isIn_v11 ++ (wq_k_X7_power_v5 ++ (wq_k_X7_divisor_v5 ++ (wq_k_X7_isIn_v12 ++ (wsX70 ++ [])))))))))))))))))))
theorem gd_c_M_odds : Gd wq_c_M_odds := gd_c (gd_a (gd_o (by decide +kernel)) (gd_a gd_k_X7_isIn_v7 (gd_a gd_k_X7_isIn_v4 (gd_a gd_k_X7_power (gd_a gd_k_X7_divisor (gd_a gd_k_X7_isIn_v8 (gd_a gd_k_X7_power_v2 (gd_a gd_k_X7_divisor_v2 (gd_a gd_k_X7_isIn_v9 (gd_a gd_k_X7_power_v3 (gd_a gd_k_X7_divisor_v3 (gd_a gd_k_X7_isIn_v10 (gd_a gd_k_X7_power_v4 (gd_a gd_k_X7_divisor_v4 (gd_a gd_k_X7_isIn_v11 (gd_a gd_k_X7_power_v5 (gd_a gd_k_X7_divisor_v5 (gd_a gd_k_X7_isIn_v12 (gd_a gd_u gd_0)))))))))))))))))))
abbrev wc_c_M_odds (cyB cyI cyJ cyZ cyO : ClassId) (h1 : Nat) (md : Nat → Nat) (x1 : Int32) (x2 : Int32) : va_W := [(h1, .inr (7, [.ref (md 0), .ref (md 1), .int 0, .int 0, .int 0, .int (-1), .int 0, .int 0, .int 0, .int 0, .long 0, .ref (md 11), .ref (md 12), .ref (md 13), .ref (md 14), .ref (md 15), .ref (md 16), .ref (md 17), .ref (md 18), .ref (md 19), .ref (md 20), .ref (md 21), .ref (md 22), .ref (md 23), .ref (md 24), .ref (md 25), .ref (md 26), .ref (md 27), .ref (md 28), .int 0, .int 0, .int 0, .int 0, .int 0, .int 0, .int 0, .int 0, .int 0, .int 0, .int 0, .ref (md 40), .ref (md 41), .int 0, .int 0, .ref (md 44), .int 0, .int 0, .ref (md 47), .ref (md 48), .int 0, .ref (md 50), .ref (md 51), .ref (md 52), .ref (md 53), .ref (md 54), .int 0, .int 0, .ref (md 57), .ref (md 58)])), (md 16, .inl (cyI, 2, .inl (fun _ => 0)))]
set_option maxHeartbeats 4000000 in
set_option maxRecDepth 100000 in
theorem c_M_odds (l : Launch) (dC : Nat → ClassId) (dI : Nat → Nat → Nat) (cyB cyI cyJ cyZ cyO : ClassId) (h1 : Nat) (md : Nat → Nat) (x1 : Int32) (x2 : Int32) (sz : Nat) : Met l yX7_odds wq_c_M_odds ({ frames := 1, cells := 0, slots := 0, locals := 24 }) (va_Pc [.ref h1, .int x1, .int x2] (cB (dC, dI) (kT cyB cyI cyJ cyZ cyO) (wc_c_M_odds cyB cyI cyJ cyZ cyO h1 md x1 x2) sz)) (va_Qi (fun (r : Int32) (_ : Unit) => r = sp_odds x1 x2) (fun (u : Unit) t => cE (dC, dI) (va_A (wc_c_M_odds cyB cyI cyJ cyZ cyO h1 md x1 x2) sz) ([]) t.heap) (va_A (wc_c_M_odds cyB cyI cyJ cyZ cyO h1 md x1 x2) sz)) 0 0 (va_A (wc_c_M_odds cyB cyI cyJ cyZ cyO h1 md x1 x2) sz) := by
  refine Met.ofW (cc := cX7_odds) (maxL := 5) (ret := (some .int)) (by decide) rfl ?_
  intro p e s m args below meth c s₁ B hml hv
  obtain ⟨rfl, hsz, hP, hKN, hD0⟩ := hv
  have hx := B.exec
  have hb := B.bytes
  have hr := B.returns
  have hts := atoms_spec (ws := wq_c_M_odds) B.pre
  have hown : s.vm.findClass RX7 = some m.cls := findClass_of_methodNamed B.named
  have hlocks := B.notSynchronized
  have hK := hKN.1
  have hfix : CallFix p m c cX7_odds 5 s [.ref h1, .int x1, .int x2].toArray wq_c_M_odds RX7 := ⟨hx, hb, hml, hown, hts⟩
  have hi7 : ∀ w ∈ wsX70, w ∈ wq_c_M_odds := (sb_c (sb_r (sb_r (sb_r (sb_r (sb_r (sb_r (sb_r (sb_r (sb_r (sb_r (sb_r (sb_r (sb_r (sb_r (sb_r (sb_r (sb_r sb_l))))))))))))))))))
  subst hsz
  have hD := hD0.self (sz := s.heap.size)
  generalize hAe : va_A (wc_c_M_odds cyB cyI cyJ cyZ cyO h1 md x1 x2) s.heap.size = A at hD ⊢
  have hA : ∀ q : Nat, s.heap.size ≤ q → A q := fun q h => by rw [← hAe]; exact Or.inr h
  have hS : va_S A s.heap s.heap [] := va_S.rf
  have hl := lv_entry ([.ref h1, .int x1, .int x2]) (n := 5) (Nat.le_of_ble_eq_true rfl)
  rw [lg_entry_eq]
  generalize (lg_sl ([.ref h1, .int x1, .int x2]) ++ List.replicate (5 - (lg_sl ([.ref h1, .int x1, .int x2])).length) Slot.unset).toArray = ls at hl ⊢
  have hl : lv_has ls 5 [(0, .ref h1), (1, .int x1), (2, .int x2)] := hl
  by_cases c3079 : x1 = 0
  · subst c3079
    have tc3079 : (0 : Int32).toInt = 0 := by decide
    have hl : lv_has ls 5 [(0, .ref h1), (1, .int 0), (2, .int x2)] := hl
    refine lv_iload_n hx hb dX7_odds_0 rfl (lv_at hl 1 rfl) ?_
    refine lv_iconst (v := 0) hx hb dX7_odds_1 (by decide) ?_
    refine lv_iconst (v := 4) hx hb dX7_odds_2 (by decide) ?_
    refine gf_i (wr := [(h1, .inr (7, [.ref (md 0), .ref (md 1), .int 0, .int 0, .int 0, .int (-1), .int 0, .int 0, .int 0, .int 0, .long 0, .ref (md 11), .ref (md 12), .ref (md 13), .ref (md 14), .ref (md 15), .ref (md 16), .ref (md 17), .ref (md 18), .ref (md 19), .ref (md 20), .ref (md 21), .ref (md 22), .ref (md 23), .ref (md 24), .ref (md 25), .ref (md 26), .ref (md 27), .ref (md 28), .int 0, .int 0, .int 0, .int 0, .int 0, .int 0, .int 0, .int 0, .int 0, .int 0, .int 0, .ref (md 40), .ref (md 41), .int 0, .int 0, .ref (md 44), .int 0, .int 0, .ref (md 47), .ref (md 48), .int 0, .ref (md 50), .ref (md 51), .ref (md 52), .ref (md 53), .ref (md 54), .int 0, .int 0, .ref (md 57), .ref (md 58)])), (md 16, .inl (cyI, 2, .inl (fun _ => 0)))]) (va_runS (As := [.int 0, .int 0, .int 4]) (rest := []) hfix (k_X7_isIn_v7 l dC dI cyB cyI cyJ cyZ cyO _) (va_cwS 3 hts (gi_S (ow_m (k := 0) rfl) (ow_m (k := 1) rfl) (ow_m (k := 2) rfl) (sb_c sb_l) gd_k_X7_isIn_v7) rfl rfl rfl (by decide +kernel) ⟨Nat.le_of_ble_eq_true rfl, Nat.le_of_ble_eq_true rfl⟩) (g_preS hKN hP hD [] rfl (by decide)) rfl rfl hl.1 rfl (lv_room (Nat.le_of_ble_eq_true rfl)) dX7_odds_3 ⟨Nat.le_of_ble_eq_true rfl, Nat.le_of_ble_eq_true rfl⟩) hP hD hS hA [] [0, 1] rfl rfl (by decide) (by decide) (fun r3082 u3083 H locs qu3083 hP hD hS => ?_)
    have hP : va_P (dC, dI) vwCl [(h1, .inr (7, [.ref (md 0), .ref (md 1), .int 0, .int 0, .int 0, .int (-1), .int 0, .int 0, .int 0, .int 0, .long 0, .ref (md 11), .ref (md 12), .ref (md 13), .ref (md 14), .ref (md 15), .ref (md 16), .ref (md 17), .ref (md 18), .ref (md 19), .ref (md 20), .ref (md 21), .ref (md 22), .ref (md 23), .ref (md 24), .ref (md 25), .ref (md 26), .ref (md 27), .ref (md 28), .int 0, .int 0, .int 0, .int 0, .int 0, .int 0, .int 0, .int 0, .int 0, .int 0, .int 0, .ref (md 40), .ref (md 41), .int 0, .int 0, .ref (md 44), .int 0, .int 0, .ref (md 47), .ref (md 48), .int 0, .ref (md 50), .ref (md 51), .ref (md 52), .ref (md 53), .ref (md 54), .int 0, .int 0, .ref (md 57), .ref (md 58)])), (md 16, .inl (cyI, 2, .inl (fun _ => 0)))] H := hP
    have hD : va_D A [(h1, .inr (7, [.ref (md 0), .ref (md 1), .int 0, .int 0, .int 0, .int (-1), .int 0, .int 0, .int 0, .int 0, .long 0, .ref (md 11), .ref (md 12), .ref (md 13), .ref (md 14), .ref (md 15), .ref (md 16), .ref (md 17), .ref (md 18), .ref (md 19), .ref (md 20), .ref (md 21), .ref (md 22), .ref (md 23), .ref (md 24), .ref (md 25), .ref (md 26), .ref (md 27), .ref (md 28), .int 0, .int 0, .int 0, .int 0, .int 0, .int 0, .int 0, .int 0, .int 0, .int 0, .int 0, .ref (md 40), .ref (md 41), .int 0, .int 0, .ref (md 44), .int 0, .int 0, .ref (md 47), .ref (md 48), .int 0, .ref (md 50), .ref (md 51), .ref (md 52), .ref (md 53), .ref (md 54), .int 0, .int 0, .ref (md 57), .ref (md 58)])), (md 16, .inl (cyI, 2, .inl (fun _ => 0)))] := hD
    refine tp_c (w := 1) qu3083 ?_
    refine lv_if_eq (tgt := 18) hx hb dX7_odds_6 (by decide) (fun c3084 => absurd c3084 (by decide)) (fun _ => ?_)
    refine lv_iload_n hx hb dX7_odds_9 rfl (lv_at hl 2 rfl) ?_
    refine lv_iconst (v := 0) hx hb dX7_odds_10 (by decide) ?_
    refine lv_iconst (v := 1) hx hb dX7_odds_11 (by decide) ?_
    refine gf_i (wr := [(h1, .inr (7, [.ref (md 0), .ref (md 1), .int 0, .int 0, .int 0, .int (-1), .int 0, .int 0, .int 0, .int 0, .long 0, .ref (md 11), .ref (md 12), .ref (md 13), .ref (md 14), .ref (md 15), .ref (md 16), .ref (md 17), .ref (md 18), .ref (md 19), .ref (md 20), .ref (md 21), .ref (md 22), .ref (md 23), .ref (md 24), .ref (md 25), .ref (md 26), .ref (md 27), .ref (md 28), .int 0, .int 0, .int 0, .int 0, .int 0, .int 0, .int 0, .int 0, .int 0, .int 0, .int 0, .ref (md 40), .ref (md 41), .int 0, .int 0, .ref (md 44), .int 0, .int 0, .ref (md 47), .ref (md 48), .int 0, .ref (md 50), .ref (md 51), .ref (md 52), .ref (md 53), .ref (md 54), .int 0, .int 0, .ref (md 57), .ref (md 58)])), (md 16, .inl (cyI, 2, .inl (fun _ => 0)))]) (va_runS (As := [.int x2, .int 0, .int 1]) (rest := []) hfix (k_X7_isIn_v4 l dC dI cyB cyI cyJ cyZ cyO x2 _) (va_cwS 3 hts (gi_S (ow_m (k := 0) rfl) (ow_m (k := 1) rfl) (ow_m (k := 2) rfl) (sb_c (sb_r sb_l)) gd_k_X7_isIn_v4) rfl rfl rfl (by decide +kernel) ⟨Nat.le_of_ble_eq_true rfl, Nat.le_of_ble_eq_true rfl⟩) (g_preS hKN hP hD [] rfl (by decide)) rfl rfl hl.1 rfl (lv_room (Nat.le_of_ble_eq_true rfl)) dX7_odds_12 ⟨Nat.le_of_ble_eq_true rfl, Nat.le_of_ble_eq_true rfl⟩) hP hD hS hA [] [0, 1] rfl rfl (by decide) (by decide) (fun r3087 u3088 H locs qu3088 hP hD hS => ?_)
    have hP : va_P (dC, dI) vwCl [(h1, .inr (7, [.ref (md 0), .ref (md 1), .int 0, .int 0, .int 0, .int (-1), .int 0, .int 0, .int 0, .int 0, .long 0, .ref (md 11), .ref (md 12), .ref (md 13), .ref (md 14), .ref (md 15), .ref (md 16), .ref (md 17), .ref (md 18), .ref (md 19), .ref (md 20), .ref (md 21), .ref (md 22), .ref (md 23), .ref (md 24), .ref (md 25), .ref (md 26), .ref (md 27), .ref (md 28), .int 0, .int 0, .int 0, .int 0, .int 0, .int 0, .int 0, .int 0, .int 0, .int 0, .int 0, .ref (md 40), .ref (md 41), .int 0, .int 0, .ref (md 44), .int 0, .int 0, .ref (md 47), .ref (md 48), .int 0, .ref (md 50), .ref (md 51), .ref (md 52), .ref (md 53), .ref (md 54), .int 0, .int 0, .ref (md 57), .ref (md 58)])), (md 16, .inl (cyI, 2, .inl (fun _ => 0)))] H := hP
    have hD : va_D A [(h1, .inr (7, [.ref (md 0), .ref (md 1), .int 0, .int 0, .int 0, .int (-1), .int 0, .int 0, .int 0, .int 0, .long 0, .ref (md 11), .ref (md 12), .ref (md 13), .ref (md 14), .ref (md 15), .ref (md 16), .ref (md 17), .ref (md 18), .ref (md 19), .ref (md 20), .ref (md 21), .ref (md 22), .ref (md 23), .ref (md 24), .ref (md 25), .ref (md 26), .ref (md 27), .ref (md 28), .int 0, .int 0, .int 0, .int 0, .int 0, .int 0, .int 0, .int 0, .int 0, .int 0, .int 0, .ref (md 40), .ref (md 41), .int 0, .int 0, .ref (md 44), .int 0, .int 0, .ref (md 47), .ref (md 48), .int 0, .ref (md 50), .ref (md 51), .ref (md 52), .ref (md 53), .ref (md 54), .int 0, .int 0, .ref (md 57), .ref (md 58)])), (md 16, .inl (cyI, 2, .inl (fun _ => 0)))] := hD
    rcases qu3088 with ⟨rfl, b3089⟩ | ⟨rfl, b3090, b3091⟩ | ⟨rfl, b3092, b3093⟩
    · skip
      refine lv_if_ne (tgt := 20) hx hb dX7_odds_15 (by decide) (fun c3094 => absurd (by decide) c3094) (fun _ => ?_)
      refine lv_iconst (v := (-1)) hx hb dX7_odds_18 (by decide) ?_
      exact W.iret (v := (-1)) hx hb hr (fun t ht hW => ⟨⟨(-1), (), rfl, (by first | decide | (unfold sp_odds; (repeat' split) <;> first | rfl | omega)), cE.nil⟩, hS.F ht⟩) hS.2.2 dX7_odds_19
    · skip
      refine lv_if_ne (tgt := 20) hx hb dX7_odds_15 (by decide) (fun c3095 => absurd (by decide) c3095) (fun _ => ?_)
      refine lv_iconst (v := (-1)) hx hb dX7_odds_18 (by decide) ?_
      exact W.iret (v := (-1)) hx hb hr (fun t ht hW => ⟨⟨(-1), (), rfl, (by first | decide | (unfold sp_odds; (repeat' split) <;> first | rfl | omega)), cE.nil⟩, hS.F ht⟩) hS.2.2 dX7_odds_19
    · skip
      refine lv_if_ne (tgt := 20) hx hb dX7_odds_15 (by decide) (fun _ => ?_) (fun c3096 => absurd c3096 (by decide))
      refine lv_bipush (v := 100) hx hb dX7_odds_20 (by decide) ?_
      refine lv_aload_n hx hb dX7_odds_22 rfl (lv_at hl 0 rfl) ?_
      refine va_get (D := (dC, dI)) (ci := 7) (v := .ref (md 16)) (C := RX7) (T := TX7) (N := 59) hx hb hts hi7 hown hK hP 0 rfl rfl 16 (by decide) (hts _ (ow_m (k := 3) rfl)) (fun _ h9 => h9) rfl dX7_odds_23 ?_
      refine lv_aload_n hx hb dX7_odds_26 rfl (lv_at hl 0 rfl) ?_
      refine va_get (D := (dC, dI)) (ci := 7) (v := .int 0) (C := RX7) (T := TX7) (N := 59) hx hb hts hi7 hown hK hP 0 rfl rfl 29 (by decide) (hts _ (ow_m (k := 4) rfl)) (fun _ h9 => h9) rfl dX7_odds_27 ?_
      refine va_iald hx hb hK hP 1 1 rfl rfl (vp_i (a := 0) (by decide) (by decide) (by decide)) dX7_odds_30 ?_
      refine tp_c (w := 0) (by rfl) ?_
      refine lv_isub hx hb dX7_odds_31 ?_
      refine tp_c (w := 100) (by decide) ?_
      refine lv_iload_n hx hb dX7_odds_32 rfl (lv_at hl 1 rfl) ?_
      refine gf_i (wr := [(h1, .inr (7, [.ref (md 0), .ref (md 1), .int 0, .int 0, .int 0, .int (-1), .int 0, .int 0, .int 0, .int 0, .long 0, .ref (md 11), .ref (md 12), .ref (md 13), .ref (md 14), .ref (md 15), .ref (md 16), .ref (md 17), .ref (md 18), .ref (md 19), .ref (md 20), .ref (md 21), .ref (md 22), .ref (md 23), .ref (md 24), .ref (md 25), .ref (md 26), .ref (md 27), .ref (md 28), .int 0, .int 0, .int 0, .int 0, .int 0, .int 0, .int 0, .int 0, .int 0, .int 0, .int 0, .ref (md 40), .ref (md 41), .int 0, .int 0, .ref (md 44), .int 0, .int 0, .ref (md 47), .ref (md 48), .int 0, .ref (md 50), .ref (md 51), .ref (md 52), .ref (md 53), .ref (md 54), .int 0, .int 0, .ref (md 57), .ref (md 58)])), (md 16, .inl (cyI, 2, .inl (fun _ => 0)))]) (va_runS (As := [.int 100, .int 0]) (rest := []) hfix (k_X7_power l dC dI cyB cyI cyJ cyZ cyO _) (va_cwS 2 hts (gi_S (ow_m (k := 5) rfl) (ow_m (k := 6) rfl) (ow_m (k := 2) rfl) (sb_c (sb_r (sb_r sb_l))) gd_k_X7_power) rfl rfl rfl (by decide +kernel) ⟨Nat.le_of_ble_eq_true rfl, Nat.le_of_ble_eq_true rfl⟩) (g_preS hKN hP hD [] rfl (by decide)) rfl rfl hl.1 rfl (lv_room (Nat.le_of_ble_eq_true rfl)) dX7_odds_33 ⟨Nat.le_of_ble_eq_true rfl, Nat.le_of_ble_eq_true rfl⟩) hP hD hS hA [] [0, 1] rfl rfl (by decide) (by decide) (fun r3098 u3099 H locs qu3099 hP hD hS => ?_)
      have hP : va_P (dC, dI) vwCl [(h1, .inr (7, [.ref (md 0), .ref (md 1), .int 0, .int 0, .int 0, .int (-1), .int 0, .int 0, .int 0, .int 0, .long 0, .ref (md 11), .ref (md 12), .ref (md 13), .ref (md 14), .ref (md 15), .ref (md 16), .ref (md 17), .ref (md 18), .ref (md 19), .ref (md 20), .ref (md 21), .ref (md 22), .ref (md 23), .ref (md 24), .ref (md 25), .ref (md 26), .ref (md 27), .ref (md 28), .int 0, .int 0, .int 0, .int 0, .int 0, .int 0, .int 0, .int 0, .int 0, .int 0, .int 0, .ref (md 40), .ref (md 41), .int 0, .int 0, .ref (md 44), .int 0, .int 0, .ref (md 47), .ref (md 48), .int 0, .ref (md 50), .ref (md 51), .ref (md 52), .ref (md 53), .ref (md 54), .int 0, .int 0, .ref (md 57), .ref (md 58)])), (md 16, .inl (cyI, 2, .inl (fun _ => 0)))] H := hP
      have hD : va_D A [(h1, .inr (7, [.ref (md 0), .ref (md 1), .int 0, .int 0, .int 0, .int (-1), .int 0, .int 0, .int 0, .int 0, .long 0, .ref (md 11), .ref (md 12), .ref (md 13), .ref (md 14), .ref (md 15), .ref (md 16), .ref (md 17), .ref (md 18), .ref (md 19), .ref (md 20), .ref (md 21), .ref (md 22), .ref (md 23), .ref (md 24), .ref (md 25), .ref (md 26), .ref (md 27), .ref (md 28), .int 0, .int 0, .int 0, .int 0, .int 0, .int 0, .int 0, .int 0, .int 0, .int 0, .int 0, .ref (md 40), .ref (md 41), .int 0, .int 0, .ref (md 44), .int 0, .int 0, .ref (md 47), .ref (md 48), .int 0, .ref (md 50), .ref (md 51), .ref (md 52), .ref (md 53), .ref (md 54), .int 0, .int 0, .ref (md 57), .ref (md 58)])), (md 16, .inl (cyI, 2, .inl (fun _ => 0)))] := hD
      refine tp_c (w := 1) qu3099 ?_
      refine lv_istore_n (lv' := [(3, .int 1), (0, .ref h1), (1, .int 0), (2, .int x2)]) hx hb dX7_odds_36 rfl hl (by decide) rfl (fun ls hl => ?_)
      refine lv_bipush (v := 100) hx hb dX7_odds_37 (by decide) ?_
      refine lv_iload_n hx hb dX7_odds_39 rfl (lv_at hl 2 rfl) ?_
      refine gf_i (wr := [(h1, .inr (7, [.ref (md 0), .ref (md 1), .int 0, .int 0, .int 0, .int (-1), .int 0, .int 0, .int 0, .int 0, .long 0, .ref (md 11), .ref (md 12), .ref (md 13), .ref (md 14), .ref (md 15), .ref (md 16), .ref (md 17), .ref (md 18), .ref (md 19), .ref (md 20), .ref (md 21), .ref (md 22), .ref (md 23), .ref (md 24), .ref (md 25), .ref (md 26), .ref (md 27), .ref (md 28), .int 0, .int 0, .int 0, .int 0, .int 0, .int 0, .int 0, .int 0, .int 0, .int 0, .int 0, .ref (md 40), .ref (md 41), .int 0, .int 0, .ref (md 44), .int 0, .int 0, .ref (md 47), .ref (md 48), .int 0, .ref (md 50), .ref (md 51), .ref (md 52), .ref (md 53), .ref (md 54), .int 0, .int 0, .ref (md 57), .ref (md 58)])), (md 16, .inl (cyI, 2, .inl (fun _ => 0)))]) (va_runS (As := [.int 100, .int 0]) (rest := []) hfix (k_X7_power l dC dI cyB cyI cyJ cyZ cyO _) (va_cwS 2 hts (gi_S (ow_m (k := 5) rfl) (ow_m (k := 6) rfl) (ow_m (k := 2) rfl) (sb_c (sb_r (sb_r sb_l))) gd_k_X7_power) rfl rfl rfl (by decide +kernel) ⟨Nat.le_of_ble_eq_true rfl, Nat.le_of_ble_eq_true rfl⟩) (g_preS hKN hP hD [] rfl (by decide)) rfl rfl hl.1 rfl (lv_room (Nat.le_of_ble_eq_true rfl)) dX7_odds_40 ⟨Nat.le_of_ble_eq_true rfl, Nat.le_of_ble_eq_true rfl⟩) hP hD hS hA [] [0, 1] rfl rfl (by decide) (by decide) (fun r3101 u3102 H locs qu3102 hP hD hS => ?_)
      have hP : va_P (dC, dI) vwCl [(h1, .inr (7, [.ref (md 0), .ref (md 1), .int 0, .int 0, .int 0, .int (-1), .int 0, .int 0, .int 0, .int 0, .long 0, .ref (md 11), .ref (md 12), .ref (md 13), .ref (md 14), .ref (md 15), .ref (md 16), .ref (md 17), .ref (md 18), .ref (md 19), .ref (md 20), .ref (md 21), .ref (md 22), .ref (md 23), .ref (md 24), .ref (md 25), .ref (md 26), .ref (md 27), .ref (md 28), .int 0, .int 0, .int 0, .int 0, .int 0, .int 0, .int 0, .int 0, .int 0, .int 0, .int 0, .ref (md 40), .ref (md 41), .int 0, .int 0, .ref (md 44), .int 0, .int 0, .ref (md 47), .ref (md 48), .int 0, .ref (md 50), .ref (md 51), .ref (md 52), .ref (md 53), .ref (md 54), .int 0, .int 0, .ref (md 57), .ref (md 58)])), (md 16, .inl (cyI, 2, .inl (fun _ => 0)))] H := hP
      have hD : va_D A [(h1, .inr (7, [.ref (md 0), .ref (md 1), .int 0, .int 0, .int 0, .int (-1), .int 0, .int 0, .int 0, .int 0, .long 0, .ref (md 11), .ref (md 12), .ref (md 13), .ref (md 14), .ref (md 15), .ref (md 16), .ref (md 17), .ref (md 18), .ref (md 19), .ref (md 20), .ref (md 21), .ref (md 22), .ref (md 23), .ref (md 24), .ref (md 25), .ref (md 26), .ref (md 27), .ref (md 28), .int 0, .int 0, .int 0, .int 0, .int 0, .int 0, .int 0, .int 0, .int 0, .int 0, .int 0, .ref (md 40), .ref (md 41), .int 0, .int 0, .ref (md 44), .int 0, .int 0, .ref (md 47), .ref (md 48), .int 0, .ref (md 50), .ref (md 51), .ref (md 52), .ref (md 53), .ref (md 54), .int 0, .int 0, .ref (md 57), .ref (md 58)])), (md 16, .inl (cyI, 2, .inl (fun _ => 0)))] := hD
      refine tp_c (w := 1) qu3102 ?_
      refine lv_istore (lv' := [(4, .int 1), (3, .int 1), (0, .ref h1), (1, .int 0), (2, .int x2)]) hx hb dX7_odds_43 hl (by decide) rfl (fun ls hl => ?_)
      refine lv_iload_n hx hb dX7_odds_45 rfl (lv_at hl 4 rfl) ?_
      refine lv_if_ne (tgt := 53) hx hb dX7_odds_46 (by decide) (fun c3103 => ?_) (fun c3103 => ?_)
      · have c3103 := i_ne (a := x2.toInt) (b := 0) c3103 rfl (by decide)
        refine lv_iload hx hb dX7_odds_53 (lv_at hl 0 rfl) ?_
        refine lv_iload hx hb dX7_odds_55 (lv_at hl 0 rfl) ?_
        refine lv_iload_n hx hb dX7_odds_57 rfl (lv_at hl 1 rfl) ?_
        refine gf_i (wr := [(h1, .inr (7, [.ref (md 0), .ref (md 1), .int 0, .int 0, .int 0, .int (-1), .int 0, .int 0, .int 0, .int 0, .long 0, .ref (md 11), .ref (md 12), .ref (md 13), .ref (md 14), .ref (md 15), .ref (md 16), .ref (md 17), .ref (md 18), .ref (md 19), .ref (md 20), .ref (md 21), .ref (md 22), .ref (md 23), .ref (md 24), .ref (md 25), .ref (md 26), .ref (md 27), .ref (md 28), .int 0, .int 0, .int 0, .int 0, .int 0, .int 0, .int 0, .int 0, .int 0, .int 0, .int 0, .ref (md 40), .ref (md 41), .int 0, .int 0, .ref (md 44), .int 0, .int 0, .ref (md 47), .ref (md 48), .int 0, .ref (md 50), .ref (md 51), .ref (md 52), .ref (md 53), .ref (md 54), .int 0, .int 0, .ref (md 57), .ref (md 58)])), (md 16, .inl (cyI, 2, .inl (fun _ => 0)))]) (va_runS (As := [.int 1, .int 1]) (rest := [.int 1]) hfix (k_X7_divisor l dC dI cyB cyI cyJ cyZ cyO _) (va_cwS 2 hts (gi_S (ow_m (k := 7) rfl) (ow_m (k := 8) rfl) (ow_m (k := 2) rfl) (sb_c (sb_r (sb_r (sb_r sb_l)))) gd_k_X7_divisor) rfl rfl rfl (by decide +kernel) ⟨Nat.le_of_ble_eq_true rfl, Nat.le_of_ble_eq_true rfl⟩) (g_preS hKN hP hD [] rfl (by decide)) rfl rfl hl.1 rfl (lv_room (Nat.le_of_ble_eq_true rfl)) dX7_odds_58 ⟨Nat.le_of_ble_eq_true rfl, Nat.le_of_ble_eq_true rfl⟩) hP hD hS hA [] [0, 1] rfl rfl (by decide) (by decide) (fun r3106 u3107 H locs qu3107 hP hD hS => ?_)
        have hP : va_P (dC, dI) vwCl [(h1, .inr (7, [.ref (md 0), .ref (md 1), .int 0, .int 0, .int 0, .int (-1), .int 0, .int 0, .int 0, .int 0, .long 0, .ref (md 11), .ref (md 12), .ref (md 13), .ref (md 14), .ref (md 15), .ref (md 16), .ref (md 17), .ref (md 18), .ref (md 19), .ref (md 20), .ref (md 21), .ref (md 22), .ref (md 23), .ref (md 24), .ref (md 25), .ref (md 26), .ref (md 27), .ref (md 28), .int 0, .int 0, .int 0, .int 0, .int 0, .int 0, .int 0, .int 0, .int 0, .int 0, .int 0, .ref (md 40), .ref (md 41), .int 0, .int 0, .ref (md 44), .int 0, .int 0, .ref (md 47), .ref (md 48), .int 0, .ref (md 50), .ref (md 51), .ref (md 52), .ref (md 53), .ref (md 54), .int 0, .int 0, .ref (md 57), .ref (md 58)])), (md 16, .inl (cyI, 2, .inl (fun _ => 0)))] H := hP
        have hD : va_D A [(h1, .inr (7, [.ref (md 0), .ref (md 1), .int 0, .int 0, .int 0, .int (-1), .int 0, .int 0, .int 0, .int 0, .long 0, .ref (md 11), .ref (md 12), .ref (md 13), .ref (md 14), .ref (md 15), .ref (md 16), .ref (md 17), .ref (md 18), .ref (md 19), .ref (md 20), .ref (md 21), .ref (md 22), .ref (md 23), .ref (md 24), .ref (md 25), .ref (md 26), .ref (md 27), .ref (md 28), .int 0, .int 0, .int 0, .int 0, .int 0, .int 0, .int 0, .int 0, .int 0, .int 0, .int 0, .ref (md 40), .ref (md 41), .int 0, .int 0, .ref (md 44), .int 0, .int 0, .ref (md 47), .ref (md 48), .int 0, .ref (md 50), .ref (md 51), .ref (md 52), .ref (md 53), .ref (md 54), .int 0, .int 0, .ref (md 57), .ref (md 58)])), (md 16, .inl (cyI, 2, .inl (fun _ => 0)))] := hD
        refine tp_c (w := 1) qu3107 ?_
        refine lv_idiv hx hb dX7_odds_61 (by decide) ?_
        refine tp_c (w := 1) (by decide) ?_
        exact W.iret (v := 1) hx hb hr (fun t ht hW => ⟨⟨1, (), rfl, (by first | decide | (unfold sp_odds; (repeat' split) <;> first | rfl | omega)), cE.nil⟩, hS.F ht⟩) hS.2.2 dX7_odds_62
      · have c3103 := i_eq (a := x2.toInt) (b := 0) c3103 rfl (by decide)
        refine lv_iload_n hx hb dX7_odds_49 rfl (lv_at hl 1 rfl) ?_
        refine lv_goto (tgt := 55) hx hb dX7_odds_50 (by decide) ?_
        refine lv_iload hx hb dX7_odds_55 (lv_at hl 0 rfl) ?_
        refine lv_iload_n hx hb dX7_odds_57 rfl (lv_at hl 1 rfl) ?_
        refine gf_i (wr := [(h1, .inr (7, [.ref (md 0), .ref (md 1), .int 0, .int 0, .int 0, .int (-1), .int 0, .int 0, .int 0, .int 0, .long 0, .ref (md 11), .ref (md 12), .ref (md 13), .ref (md 14), .ref (md 15), .ref (md 16), .ref (md 17), .ref (md 18), .ref (md 19), .ref (md 20), .ref (md 21), .ref (md 22), .ref (md 23), .ref (md 24), .ref (md 25), .ref (md 26), .ref (md 27), .ref (md 28), .int 0, .int 0, .int 0, .int 0, .int 0, .int 0, .int 0, .int 0, .int 0, .int 0, .int 0, .ref (md 40), .ref (md 41), .int 0, .int 0, .ref (md 44), .int 0, .int 0, .ref (md 47), .ref (md 48), .int 0, .ref (md 50), .ref (md 51), .ref (md 52), .ref (md 53), .ref (md 54), .int 0, .int 0, .ref (md 57), .ref (md 58)])), (md 16, .inl (cyI, 2, .inl (fun _ => 0)))]) (va_runS (As := [.int 1, .int 1]) (rest := [.int 1]) hfix (k_X7_divisor l dC dI cyB cyI cyJ cyZ cyO _) (va_cwS 2 hts (gi_S (ow_m (k := 7) rfl) (ow_m (k := 8) rfl) (ow_m (k := 2) rfl) (sb_c (sb_r (sb_r (sb_r sb_l)))) gd_k_X7_divisor) rfl rfl rfl (by decide +kernel) ⟨Nat.le_of_ble_eq_true rfl, Nat.le_of_ble_eq_true rfl⟩) (g_preS hKN hP hD [] rfl (by decide)) rfl rfl hl.1 rfl (lv_room (Nat.le_of_ble_eq_true rfl)) dX7_odds_58 ⟨Nat.le_of_ble_eq_true rfl, Nat.le_of_ble_eq_true rfl⟩) hP hD hS hA [] [0, 1] rfl rfl (by decide) (by decide) (fun r3110 u3111 H locs qu3111 hP hD hS => ?_)
        have hP : va_P (dC, dI) vwCl [(h1, .inr (7, [.ref (md 0), .ref (md 1), .int 0, .int 0, .int 0, .int (-1), .int 0, .int 0, .int 0, .int 0, .long 0, .ref (md 11), .ref (md 12), .ref (md 13), .ref (md 14), .ref (md 15), .ref (md 16), .ref (md 17), .ref (md 18), .ref (md 19), .ref (md 20), .ref (md 21), .ref (md 22), .ref (md 23), .ref (md 24), .ref (md 25), .ref (md 26), .ref (md 27), .ref (md 28), .int 0, .int 0, .int 0, .int 0, .int 0, .int 0, .int 0, .int 0, .int 0, .int 0, .int 0, .ref (md 40), .ref (md 41), .int 0, .int 0, .ref (md 44), .int 0, .int 0, .ref (md 47), .ref (md 48), .int 0, .ref (md 50), .ref (md 51), .ref (md 52), .ref (md 53), .ref (md 54), .int 0, .int 0, .ref (md 57), .ref (md 58)])), (md 16, .inl (cyI, 2, .inl (fun _ => 0)))] H := hP
        have hD : va_D A [(h1, .inr (7, [.ref (md 0), .ref (md 1), .int 0, .int 0, .int 0, .int (-1), .int 0, .int 0, .int 0, .int 0, .long 0, .ref (md 11), .ref (md 12), .ref (md 13), .ref (md 14), .ref (md 15), .ref (md 16), .ref (md 17), .ref (md 18), .ref (md 19), .ref (md 20), .ref (md 21), .ref (md 22), .ref (md 23), .ref (md 24), .ref (md 25), .ref (md 26), .ref (md 27), .ref (md 28), .int 0, .int 0, .int 0, .int 0, .int 0, .int 0, .int 0, .int 0, .int 0, .int 0, .int 0, .ref (md 40), .ref (md 41), .int 0, .int 0, .ref (md 44), .int 0, .int 0, .ref (md 47), .ref (md 48), .int 0, .ref (md 50), .ref (md 51), .ref (md 52), .ref (md 53), .ref (md 54), .int 0, .int 0, .ref (md 57), .ref (md 58)])), (md 16, .inl (cyI, 2, .inl (fun _ => 0)))] := hD
        refine tp_c (w := 1) qu3111 ?_
        refine lv_idiv hx hb dX7_odds_61 (by decide) ?_
        refine tp_c (w := 1) (by decide) ?_
        exact W.iret (v := 1) hx hb hr (fun t ht hW => ⟨⟨1, (), rfl, (by first | decide | (unfold sp_odds; (repeat' split) <;> first | rfl | omega)), cE.nil⟩, hS.F ht⟩) hS.2.2 dX7_odds_62
  have c3079i := i_ne (b := 0) c3079 rfl (by decide)
  by_cases c3112 : x1 = 1
  · subst c3112
    have tc3112 : (1 : Int32).toInt = 1 := by decide
    have hl : lv_has ls 5 [(0, .ref h1), (1, .int 1), (2, .int x2)] := hl
    refine lv_iload_n hx hb dX7_odds_0 rfl (lv_at hl 1 rfl) ?_
    refine lv_iconst (v := 0) hx hb dX7_odds_1 (by decide) ?_
    refine lv_iconst (v := 4) hx hb dX7_odds_2 (by decide) ?_
    refine gf_i (wr := [(h1, .inr (7, [.ref (md 0), .ref (md 1), .int 0, .int 0, .int 0, .int (-1), .int 0, .int 0, .int 0, .int 0, .long 0, .ref (md 11), .ref (md 12), .ref (md 13), .ref (md 14), .ref (md 15), .ref (md 16), .ref (md 17), .ref (md 18), .ref (md 19), .ref (md 20), .ref (md 21), .ref (md 22), .ref (md 23), .ref (md 24), .ref (md 25), .ref (md 26), .ref (md 27), .ref (md 28), .int 0, .int 0, .int 0, .int 0, .int 0, .int 0, .int 0, .int 0, .int 0, .int 0, .int 0, .ref (md 40), .ref (md 41), .int 0, .int 0, .ref (md 44), .int 0, .int 0, .ref (md 47), .ref (md 48), .int 0, .ref (md 50), .ref (md 51), .ref (md 52), .ref (md 53), .ref (md 54), .int 0, .int 0, .ref (md 57), .ref (md 58)])), (md 16, .inl (cyI, 2, .inl (fun _ => 0)))]) (va_runS (As := [.int 1, .int 0, .int 4]) (rest := []) hfix (k_X7_isIn_v8 l dC dI cyB cyI cyJ cyZ cyO _) (va_cwS 3 hts (gi_S (ow_m (k := 0) rfl) (ow_m (k := 1) rfl) (ow_m (k := 2) rfl) (sb_c (sb_r (sb_r (sb_r (sb_r sb_l))))) gd_k_X7_isIn_v8) rfl rfl rfl (by decide +kernel) ⟨Nat.le_of_ble_eq_true rfl, Nat.le_of_ble_eq_true rfl⟩) (g_preS hKN hP hD [] rfl (by decide)) rfl rfl hl.1 rfl (lv_room (Nat.le_of_ble_eq_true rfl)) dX7_odds_3 ⟨Nat.le_of_ble_eq_true rfl, Nat.le_of_ble_eq_true rfl⟩) hP hD hS hA [] [0, 1] rfl rfl (by decide) (by decide) (fun r3115 u3116 H locs qu3116 hP hD hS => ?_)
    have hP : va_P (dC, dI) vwCl [(h1, .inr (7, [.ref (md 0), .ref (md 1), .int 0, .int 0, .int 0, .int (-1), .int 0, .int 0, .int 0, .int 0, .long 0, .ref (md 11), .ref (md 12), .ref (md 13), .ref (md 14), .ref (md 15), .ref (md 16), .ref (md 17), .ref (md 18), .ref (md 19), .ref (md 20), .ref (md 21), .ref (md 22), .ref (md 23), .ref (md 24), .ref (md 25), .ref (md 26), .ref (md 27), .ref (md 28), .int 0, .int 0, .int 0, .int 0, .int 0, .int 0, .int 0, .int 0, .int 0, .int 0, .int 0, .ref (md 40), .ref (md 41), .int 0, .int 0, .ref (md 44), .int 0, .int 0, .ref (md 47), .ref (md 48), .int 0, .ref (md 50), .ref (md 51), .ref (md 52), .ref (md 53), .ref (md 54), .int 0, .int 0, .ref (md 57), .ref (md 58)])), (md 16, .inl (cyI, 2, .inl (fun _ => 0)))] H := hP
    have hD : va_D A [(h1, .inr (7, [.ref (md 0), .ref (md 1), .int 0, .int 0, .int 0, .int (-1), .int 0, .int 0, .int 0, .int 0, .long 0, .ref (md 11), .ref (md 12), .ref (md 13), .ref (md 14), .ref (md 15), .ref (md 16), .ref (md 17), .ref (md 18), .ref (md 19), .ref (md 20), .ref (md 21), .ref (md 22), .ref (md 23), .ref (md 24), .ref (md 25), .ref (md 26), .ref (md 27), .ref (md 28), .int 0, .int 0, .int 0, .int 0, .int 0, .int 0, .int 0, .int 0, .int 0, .int 0, .int 0, .ref (md 40), .ref (md 41), .int 0, .int 0, .ref (md 44), .int 0, .int 0, .ref (md 47), .ref (md 48), .int 0, .ref (md 50), .ref (md 51), .ref (md 52), .ref (md 53), .ref (md 54), .int 0, .int 0, .ref (md 57), .ref (md 58)])), (md 16, .inl (cyI, 2, .inl (fun _ => 0)))] := hD
    refine tp_c (w := 1) qu3116 ?_
    refine lv_if_eq (tgt := 18) hx hb dX7_odds_6 (by decide) (fun c3117 => absurd c3117 (by decide)) (fun _ => ?_)
    refine lv_iload_n hx hb dX7_odds_9 rfl (lv_at hl 2 rfl) ?_
    refine lv_iconst (v := 0) hx hb dX7_odds_10 (by decide) ?_
    refine lv_iconst (v := 1) hx hb dX7_odds_11 (by decide) ?_
    refine gf_i (wr := [(h1, .inr (7, [.ref (md 0), .ref (md 1), .int 0, .int 0, .int 0, .int (-1), .int 0, .int 0, .int 0, .int 0, .long 0, .ref (md 11), .ref (md 12), .ref (md 13), .ref (md 14), .ref (md 15), .ref (md 16), .ref (md 17), .ref (md 18), .ref (md 19), .ref (md 20), .ref (md 21), .ref (md 22), .ref (md 23), .ref (md 24), .ref (md 25), .ref (md 26), .ref (md 27), .ref (md 28), .int 0, .int 0, .int 0, .int 0, .int 0, .int 0, .int 0, .int 0, .int 0, .int 0, .int 0, .ref (md 40), .ref (md 41), .int 0, .int 0, .ref (md 44), .int 0, .int 0, .ref (md 47), .ref (md 48), .int 0, .ref (md 50), .ref (md 51), .ref (md 52), .ref (md 53), .ref (md 54), .int 0, .int 0, .ref (md 57), .ref (md 58)])), (md 16, .inl (cyI, 2, .inl (fun _ => 0)))]) (va_runS (As := [.int x2, .int 0, .int 1]) (rest := []) hfix (k_X7_isIn_v4 l dC dI cyB cyI cyJ cyZ cyO x2 _) (va_cwS 3 hts (gi_S (ow_m (k := 0) rfl) (ow_m (k := 1) rfl) (ow_m (k := 2) rfl) (sb_c (sb_r sb_l)) gd_k_X7_isIn_v4) rfl rfl rfl (by decide +kernel) ⟨Nat.le_of_ble_eq_true rfl, Nat.le_of_ble_eq_true rfl⟩) (g_preS hKN hP hD [] rfl (by decide)) rfl rfl hl.1 rfl (lv_room (Nat.le_of_ble_eq_true rfl)) dX7_odds_12 ⟨Nat.le_of_ble_eq_true rfl, Nat.le_of_ble_eq_true rfl⟩) hP hD hS hA [] [0, 1] rfl rfl (by decide) (by decide) (fun r3120 u3121 H locs qu3121 hP hD hS => ?_)
    have hP : va_P (dC, dI) vwCl [(h1, .inr (7, [.ref (md 0), .ref (md 1), .int 0, .int 0, .int 0, .int (-1), .int 0, .int 0, .int 0, .int 0, .long 0, .ref (md 11), .ref (md 12), .ref (md 13), .ref (md 14), .ref (md 15), .ref (md 16), .ref (md 17), .ref (md 18), .ref (md 19), .ref (md 20), .ref (md 21), .ref (md 22), .ref (md 23), .ref (md 24), .ref (md 25), .ref (md 26), .ref (md 27), .ref (md 28), .int 0, .int 0, .int 0, .int 0, .int 0, .int 0, .int 0, .int 0, .int 0, .int 0, .int 0, .ref (md 40), .ref (md 41), .int 0, .int 0, .ref (md 44), .int 0, .int 0, .ref (md 47), .ref (md 48), .int 0, .ref (md 50), .ref (md 51), .ref (md 52), .ref (md 53), .ref (md 54), .int 0, .int 0, .ref (md 57), .ref (md 58)])), (md 16, .inl (cyI, 2, .inl (fun _ => 0)))] H := hP
    have hD : va_D A [(h1, .inr (7, [.ref (md 0), .ref (md 1), .int 0, .int 0, .int 0, .int (-1), .int 0, .int 0, .int 0, .int 0, .long 0, .ref (md 11), .ref (md 12), .ref (md 13), .ref (md 14), .ref (md 15), .ref (md 16), .ref (md 17), .ref (md 18), .ref (md 19), .ref (md 20), .ref (md 21), .ref (md 22), .ref (md 23), .ref (md 24), .ref (md 25), .ref (md 26), .ref (md 27), .ref (md 28), .int 0, .int 0, .int 0, .int 0, .int 0, .int 0, .int 0, .int 0, .int 0, .int 0, .int 0, .ref (md 40), .ref (md 41), .int 0, .int 0, .ref (md 44), .int 0, .int 0, .ref (md 47), .ref (md 48), .int 0, .ref (md 50), .ref (md 51), .ref (md 52), .ref (md 53), .ref (md 54), .int 0, .int 0, .ref (md 57), .ref (md 58)])), (md 16, .inl (cyI, 2, .inl (fun _ => 0)))] := hD
    rcases qu3121 with ⟨rfl, b3122⟩ | ⟨rfl, b3123, b3124⟩ | ⟨rfl, b3125, b3126⟩
    · skip
      refine lv_if_ne (tgt := 20) hx hb dX7_odds_15 (by decide) (fun c3127 => absurd (by decide) c3127) (fun _ => ?_)
      refine lv_iconst (v := (-1)) hx hb dX7_odds_18 (by decide) ?_
      exact W.iret (v := (-1)) hx hb hr (fun t ht hW => ⟨⟨(-1), (), rfl, (by first | decide | (unfold sp_odds; (repeat' split) <;> first | rfl | omega)), cE.nil⟩, hS.F ht⟩) hS.2.2 dX7_odds_19
    · skip
      refine lv_if_ne (tgt := 20) hx hb dX7_odds_15 (by decide) (fun c3128 => absurd (by decide) c3128) (fun _ => ?_)
      refine lv_iconst (v := (-1)) hx hb dX7_odds_18 (by decide) ?_
      exact W.iret (v := (-1)) hx hb hr (fun t ht hW => ⟨⟨(-1), (), rfl, (by first | decide | (unfold sp_odds; (repeat' split) <;> first | rfl | omega)), cE.nil⟩, hS.F ht⟩) hS.2.2 dX7_odds_19
    · skip
      refine lv_if_ne (tgt := 20) hx hb dX7_odds_15 (by decide) (fun _ => ?_) (fun c3129 => absurd c3129 (by decide))
      refine lv_bipush (v := 100) hx hb dX7_odds_20 (by decide) ?_
      refine lv_aload_n hx hb dX7_odds_22 rfl (lv_at hl 0 rfl) ?_
      refine va_get (D := (dC, dI)) (ci := 7) (v := .ref (md 16)) (C := RX7) (T := TX7) (N := 59) hx hb hts hi7 hown hK hP 0 rfl rfl 16 (by decide) (hts _ (ow_m (k := 3) rfl)) (fun _ h9 => h9) rfl dX7_odds_23 ?_
      refine lv_aload_n hx hb dX7_odds_26 rfl (lv_at hl 0 rfl) ?_
      refine va_get (D := (dC, dI)) (ci := 7) (v := .int 0) (C := RX7) (T := TX7) (N := 59) hx hb hts hi7 hown hK hP 0 rfl rfl 29 (by decide) (hts _ (ow_m (k := 4) rfl)) (fun _ h9 => h9) rfl dX7_odds_27 ?_
      refine va_iald hx hb hK hP 1 1 rfl rfl (vp_i (a := 0) (by decide) (by decide) (by decide)) dX7_odds_30 ?_
      refine tp_c (w := 0) (by rfl) ?_
      refine lv_isub hx hb dX7_odds_31 ?_
      refine tp_c (w := 100) (by decide) ?_
      refine lv_iload_n hx hb dX7_odds_32 rfl (lv_at hl 1 rfl) ?_
      refine gf_i (wr := [(h1, .inr (7, [.ref (md 0), .ref (md 1), .int 0, .int 0, .int 0, .int (-1), .int 0, .int 0, .int 0, .int 0, .long 0, .ref (md 11), .ref (md 12), .ref (md 13), .ref (md 14), .ref (md 15), .ref (md 16), .ref (md 17), .ref (md 18), .ref (md 19), .ref (md 20), .ref (md 21), .ref (md 22), .ref (md 23), .ref (md 24), .ref (md 25), .ref (md 26), .ref (md 27), .ref (md 28), .int 0, .int 0, .int 0, .int 0, .int 0, .int 0, .int 0, .int 0, .int 0, .int 0, .int 0, .ref (md 40), .ref (md 41), .int 0, .int 0, .ref (md 44), .int 0, .int 0, .ref (md 47), .ref (md 48), .int 0, .ref (md 50), .ref (md 51), .ref (md 52), .ref (md 53), .ref (md 54), .int 0, .int 0, .ref (md 57), .ref (md 58)])), (md 16, .inl (cyI, 2, .inl (fun _ => 0)))]) (va_runS (As := [.int 100, .int 1]) (rest := []) hfix (k_X7_power_v2 l dC dI cyB cyI cyJ cyZ cyO _) (va_cwS 2 hts (gi_S (ow_m (k := 5) rfl) (ow_m (k := 6) rfl) (ow_m (k := 2) rfl) (sb_c (sb_r (sb_r (sb_r (sb_r (sb_r sb_l)))))) gd_k_X7_power_v2) rfl rfl rfl (by decide +kernel) ⟨Nat.le_of_ble_eq_true rfl, Nat.le_of_ble_eq_true rfl⟩) (g_preS hKN hP hD [] rfl (by decide)) rfl rfl hl.1 rfl (lv_room (Nat.le_of_ble_eq_true rfl)) dX7_odds_33 ⟨Nat.le_of_ble_eq_true rfl, Nat.le_of_ble_eq_true rfl⟩) hP hD hS hA [] [0, 1] rfl rfl (by decide) (by decide) (fun r3132 u3133 H locs qu3133 hP hD hS => ?_)
      have hP : va_P (dC, dI) vwCl [(h1, .inr (7, [.ref (md 0), .ref (md 1), .int 0, .int 0, .int 0, .int (-1), .int 0, .int 0, .int 0, .int 0, .long 0, .ref (md 11), .ref (md 12), .ref (md 13), .ref (md 14), .ref (md 15), .ref (md 16), .ref (md 17), .ref (md 18), .ref (md 19), .ref (md 20), .ref (md 21), .ref (md 22), .ref (md 23), .ref (md 24), .ref (md 25), .ref (md 26), .ref (md 27), .ref (md 28), .int 0, .int 0, .int 0, .int 0, .int 0, .int 0, .int 0, .int 0, .int 0, .int 0, .int 0, .ref (md 40), .ref (md 41), .int 0, .int 0, .ref (md 44), .int 0, .int 0, .ref (md 47), .ref (md 48), .int 0, .ref (md 50), .ref (md 51), .ref (md 52), .ref (md 53), .ref (md 54), .int 0, .int 0, .ref (md 57), .ref (md 58)])), (md 16, .inl (cyI, 2, .inl (fun _ => 0)))] H := hP
      have hD : va_D A [(h1, .inr (7, [.ref (md 0), .ref (md 1), .int 0, .int 0, .int 0, .int (-1), .int 0, .int 0, .int 0, .int 0, .long 0, .ref (md 11), .ref (md 12), .ref (md 13), .ref (md 14), .ref (md 15), .ref (md 16), .ref (md 17), .ref (md 18), .ref (md 19), .ref (md 20), .ref (md 21), .ref (md 22), .ref (md 23), .ref (md 24), .ref (md 25), .ref (md 26), .ref (md 27), .ref (md 28), .int 0, .int 0, .int 0, .int 0, .int 0, .int 0, .int 0, .int 0, .int 0, .int 0, .int 0, .ref (md 40), .ref (md 41), .int 0, .int 0, .ref (md 44), .int 0, .int 0, .ref (md 47), .ref (md 48), .int 0, .ref (md 50), .ref (md 51), .ref (md 52), .ref (md 53), .ref (md 54), .int 0, .int 0, .ref (md 57), .ref (md 58)])), (md 16, .inl (cyI, 2, .inl (fun _ => 0)))] := hD
      refine tp_c (w := 100) qu3133 ?_
      refine lv_istore_n (lv' := [(3, .int 100), (0, .ref h1), (1, .int 1), (2, .int x2)]) hx hb dX7_odds_36 rfl hl (by decide) rfl (fun ls hl => ?_)
      refine lv_bipush (v := 100) hx hb dX7_odds_37 (by decide) ?_
      refine lv_iload_n hx hb dX7_odds_39 rfl (lv_at hl 2 rfl) ?_
      refine gf_i (wr := [(h1, .inr (7, [.ref (md 0), .ref (md 1), .int 0, .int 0, .int 0, .int (-1), .int 0, .int 0, .int 0, .int 0, .long 0, .ref (md 11), .ref (md 12), .ref (md 13), .ref (md 14), .ref (md 15), .ref (md 16), .ref (md 17), .ref (md 18), .ref (md 19), .ref (md 20), .ref (md 21), .ref (md 22), .ref (md 23), .ref (md 24), .ref (md 25), .ref (md 26), .ref (md 27), .ref (md 28), .int 0, .int 0, .int 0, .int 0, .int 0, .int 0, .int 0, .int 0, .int 0, .int 0, .int 0, .ref (md 40), .ref (md 41), .int 0, .int 0, .ref (md 44), .int 0, .int 0, .ref (md 47), .ref (md 48), .int 0, .ref (md 50), .ref (md 51), .ref (md 52), .ref (md 53), .ref (md 54), .int 0, .int 0, .ref (md 57), .ref (md 58)])), (md 16, .inl (cyI, 2, .inl (fun _ => 0)))]) (va_runS (As := [.int 100, .int 1]) (rest := []) hfix (k_X7_power_v2 l dC dI cyB cyI cyJ cyZ cyO _) (va_cwS 2 hts (gi_S (ow_m (k := 5) rfl) (ow_m (k := 6) rfl) (ow_m (k := 2) rfl) (sb_c (sb_r (sb_r (sb_r (sb_r (sb_r sb_l)))))) gd_k_X7_power_v2) rfl rfl rfl (by decide +kernel) ⟨Nat.le_of_ble_eq_true rfl, Nat.le_of_ble_eq_true rfl⟩) (g_preS hKN hP hD [] rfl (by decide)) rfl rfl hl.1 rfl (lv_room (Nat.le_of_ble_eq_true rfl)) dX7_odds_40 ⟨Nat.le_of_ble_eq_true rfl, Nat.le_of_ble_eq_true rfl⟩) hP hD hS hA [] [0, 1] rfl rfl (by decide) (by decide) (fun r3136 u3137 H locs qu3137 hP hD hS => ?_)
      have hP : va_P (dC, dI) vwCl [(h1, .inr (7, [.ref (md 0), .ref (md 1), .int 0, .int 0, .int 0, .int (-1), .int 0, .int 0, .int 0, .int 0, .long 0, .ref (md 11), .ref (md 12), .ref (md 13), .ref (md 14), .ref (md 15), .ref (md 16), .ref (md 17), .ref (md 18), .ref (md 19), .ref (md 20), .ref (md 21), .ref (md 22), .ref (md 23), .ref (md 24), .ref (md 25), .ref (md 26), .ref (md 27), .ref (md 28), .int 0, .int 0, .int 0, .int 0, .int 0, .int 0, .int 0, .int 0, .int 0, .int 0, .int 0, .ref (md 40), .ref (md 41), .int 0, .int 0, .ref (md 44), .int 0, .int 0, .ref (md 47), .ref (md 48), .int 0, .ref (md 50), .ref (md 51), .ref (md 52), .ref (md 53), .ref (md 54), .int 0, .int 0, .ref (md 57), .ref (md 58)])), (md 16, .inl (cyI, 2, .inl (fun _ => 0)))] H := hP
      have hD : va_D A [(h1, .inr (7, [.ref (md 0), .ref (md 1), .int 0, .int 0, .int 0, .int (-1), .int 0, .int 0, .int 0, .int 0, .long 0, .ref (md 11), .ref (md 12), .ref (md 13), .ref (md 14), .ref (md 15), .ref (md 16), .ref (md 17), .ref (md 18), .ref (md 19), .ref (md 20), .ref (md 21), .ref (md 22), .ref (md 23), .ref (md 24), .ref (md 25), .ref (md 26), .ref (md 27), .ref (md 28), .int 0, .int 0, .int 0, .int 0, .int 0, .int 0, .int 0, .int 0, .int 0, .int 0, .int 0, .ref (md 40), .ref (md 41), .int 0, .int 0, .ref (md 44), .int 0, .int 0, .ref (md 47), .ref (md 48), .int 0, .ref (md 50), .ref (md 51), .ref (md 52), .ref (md 53), .ref (md 54), .int 0, .int 0, .ref (md 57), .ref (md 58)])), (md 16, .inl (cyI, 2, .inl (fun _ => 0)))] := hD
      refine tp_c (w := 100) qu3137 ?_
      refine lv_istore (lv' := [(4, .int 100), (3, .int 100), (0, .ref h1), (1, .int 1), (2, .int x2)]) hx hb dX7_odds_43 hl (by decide) rfl (fun ls hl => ?_)
      refine lv_iload_n hx hb dX7_odds_45 rfl (lv_at hl 4 rfl) ?_
      refine lv_if_ne (tgt := 53) hx hb dX7_odds_46 (by decide) (fun c3138 => ?_) (fun c3138 => ?_)
      · have c3138 := i_ne (a := x2.toInt) (b := 0) c3138 rfl (by decide)
        refine lv_iload hx hb dX7_odds_53 (lv_at hl 0 rfl) ?_
        refine lv_iload hx hb dX7_odds_55 (lv_at hl 0 rfl) ?_
        refine lv_iload_n hx hb dX7_odds_57 rfl (lv_at hl 1 rfl) ?_
        refine gf_i (wr := [(h1, .inr (7, [.ref (md 0), .ref (md 1), .int 0, .int 0, .int 0, .int (-1), .int 0, .int 0, .int 0, .int 0, .long 0, .ref (md 11), .ref (md 12), .ref (md 13), .ref (md 14), .ref (md 15), .ref (md 16), .ref (md 17), .ref (md 18), .ref (md 19), .ref (md 20), .ref (md 21), .ref (md 22), .ref (md 23), .ref (md 24), .ref (md 25), .ref (md 26), .ref (md 27), .ref (md 28), .int 0, .int 0, .int 0, .int 0, .int 0, .int 0, .int 0, .int 0, .int 0, .int 0, .int 0, .ref (md 40), .ref (md 41), .int 0, .int 0, .ref (md 44), .int 0, .int 0, .ref (md 47), .ref (md 48), .int 0, .ref (md 50), .ref (md 51), .ref (md 52), .ref (md 53), .ref (md 54), .int 0, .int 0, .ref (md 57), .ref (md 58)])), (md 16, .inl (cyI, 2, .inl (fun _ => 0)))]) (va_runS (As := [.int 100, .int 100]) (rest := [.int 100]) hfix (k_X7_divisor_v2 l dC dI cyB cyI cyJ cyZ cyO _) (va_cwS 2 hts (gi_S (ow_m (k := 7) rfl) (ow_m (k := 8) rfl) (ow_m (k := 2) rfl) (sb_c (sb_r (sb_r (sb_r (sb_r (sb_r (sb_r sb_l))))))) gd_k_X7_divisor_v2) rfl rfl rfl (by decide +kernel) ⟨Nat.le_of_ble_eq_true rfl, Nat.le_of_ble_eq_true rfl⟩) (g_preS hKN hP hD [] rfl (by decide)) rfl rfl hl.1 rfl (lv_room (Nat.le_of_ble_eq_true rfl)) dX7_odds_58 ⟨Nat.le_of_ble_eq_true rfl, Nat.le_of_ble_eq_true rfl⟩) hP hD hS hA [] [0, 1] rfl rfl (by decide) (by decide) (fun r3141 u3142 H locs qu3142 hP hD hS => ?_)
        have hP : va_P (dC, dI) vwCl [(h1, .inr (7, [.ref (md 0), .ref (md 1), .int 0, .int 0, .int 0, .int (-1), .int 0, .int 0, .int 0, .int 0, .long 0, .ref (md 11), .ref (md 12), .ref (md 13), .ref (md 14), .ref (md 15), .ref (md 16), .ref (md 17), .ref (md 18), .ref (md 19), .ref (md 20), .ref (md 21), .ref (md 22), .ref (md 23), .ref (md 24), .ref (md 25), .ref (md 26), .ref (md 27), .ref (md 28), .int 0, .int 0, .int 0, .int 0, .int 0, .int 0, .int 0, .int 0, .int 0, .int 0, .int 0, .ref (md 40), .ref (md 41), .int 0, .int 0, .ref (md 44), .int 0, .int 0, .ref (md 47), .ref (md 48), .int 0, .ref (md 50), .ref (md 51), .ref (md 52), .ref (md 53), .ref (md 54), .int 0, .int 0, .ref (md 57), .ref (md 58)])), (md 16, .inl (cyI, 2, .inl (fun _ => 0)))] H := hP
        have hD : va_D A [(h1, .inr (7, [.ref (md 0), .ref (md 1), .int 0, .int 0, .int 0, .int (-1), .int 0, .int 0, .int 0, .int 0, .long 0, .ref (md 11), .ref (md 12), .ref (md 13), .ref (md 14), .ref (md 15), .ref (md 16), .ref (md 17), .ref (md 18), .ref (md 19), .ref (md 20), .ref (md 21), .ref (md 22), .ref (md 23), .ref (md 24), .ref (md 25), .ref (md 26), .ref (md 27), .ref (md 28), .int 0, .int 0, .int 0, .int 0, .int 0, .int 0, .int 0, .int 0, .int 0, .int 0, .int 0, .ref (md 40), .ref (md 41), .int 0, .int 0, .ref (md 44), .int 0, .int 0, .ref (md 47), .ref (md 48), .int 0, .ref (md 50), .ref (md 51), .ref (md 52), .ref (md 53), .ref (md 54), .int 0, .int 0, .ref (md 57), .ref (md 58)])), (md 16, .inl (cyI, 2, .inl (fun _ => 0)))] := hD
        refine tp_c (w := 100) qu3142 ?_
        refine lv_idiv hx hb dX7_odds_61 (by decide) ?_
        refine tp_c (w := 1) (by decide) ?_
        exact W.iret (v := 1) hx hb hr (fun t ht hW => ⟨⟨1, (), rfl, (by first | decide | (unfold sp_odds; (repeat' split) <;> first | rfl | omega)), cE.nil⟩, hS.F ht⟩) hS.2.2 dX7_odds_62
      · have c3138 := i_eq (a := x2.toInt) (b := 0) c3138 rfl (by decide)
        refine lv_iload_n hx hb dX7_odds_49 rfl (lv_at hl 1 rfl) ?_
        refine lv_goto (tgt := 55) hx hb dX7_odds_50 (by decide) ?_
        refine lv_iload hx hb dX7_odds_55 (lv_at hl 0 rfl) ?_
        refine lv_iload_n hx hb dX7_odds_57 rfl (lv_at hl 1 rfl) ?_
        refine gf_i (wr := [(h1, .inr (7, [.ref (md 0), .ref (md 1), .int 0, .int 0, .int 0, .int (-1), .int 0, .int 0, .int 0, .int 0, .long 0, .ref (md 11), .ref (md 12), .ref (md 13), .ref (md 14), .ref (md 15), .ref (md 16), .ref (md 17), .ref (md 18), .ref (md 19), .ref (md 20), .ref (md 21), .ref (md 22), .ref (md 23), .ref (md 24), .ref (md 25), .ref (md 26), .ref (md 27), .ref (md 28), .int 0, .int 0, .int 0, .int 0, .int 0, .int 0, .int 0, .int 0, .int 0, .int 0, .int 0, .ref (md 40), .ref (md 41), .int 0, .int 0, .ref (md 44), .int 0, .int 0, .ref (md 47), .ref (md 48), .int 0, .ref (md 50), .ref (md 51), .ref (md 52), .ref (md 53), .ref (md 54), .int 0, .int 0, .ref (md 57), .ref (md 58)])), (md 16, .inl (cyI, 2, .inl (fun _ => 0)))]) (va_runS (As := [.int 100, .int 100]) (rest := [.int 100]) hfix (k_X7_divisor_v2 l dC dI cyB cyI cyJ cyZ cyO _) (va_cwS 2 hts (gi_S (ow_m (k := 7) rfl) (ow_m (k := 8) rfl) (ow_m (k := 2) rfl) (sb_c (sb_r (sb_r (sb_r (sb_r (sb_r (sb_r sb_l))))))) gd_k_X7_divisor_v2) rfl rfl rfl (by decide +kernel) ⟨Nat.le_of_ble_eq_true rfl, Nat.le_of_ble_eq_true rfl⟩) (g_preS hKN hP hD [] rfl (by decide)) rfl rfl hl.1 rfl (lv_room (Nat.le_of_ble_eq_true rfl)) dX7_odds_58 ⟨Nat.le_of_ble_eq_true rfl, Nat.le_of_ble_eq_true rfl⟩) hP hD hS hA [] [0, 1] rfl rfl (by decide) (by decide) (fun r3145 u3146 H locs qu3146 hP hD hS => ?_)
        have hP : va_P (dC, dI) vwCl [(h1, .inr (7, [.ref (md 0), .ref (md 1), .int 0, .int 0, .int 0, .int (-1), .int 0, .int 0, .int 0, .int 0, .long 0, .ref (md 11), .ref (md 12), .ref (md 13), .ref (md 14), .ref (md 15), .ref (md 16), .ref (md 17), .ref (md 18), .ref (md 19), .ref (md 20), .ref (md 21), .ref (md 22), .ref (md 23), .ref (md 24), .ref (md 25), .ref (md 26), .ref (md 27), .ref (md 28), .int 0, .int 0, .int 0, .int 0, .int 0, .int 0, .int 0, .int 0, .int 0, .int 0, .int 0, .ref (md 40), .ref (md 41), .int 0, .int 0, .ref (md 44), .int 0, .int 0, .ref (md 47), .ref (md 48), .int 0, .ref (md 50), .ref (md 51), .ref (md 52), .ref (md 53), .ref (md 54), .int 0, .int 0, .ref (md 57), .ref (md 58)])), (md 16, .inl (cyI, 2, .inl (fun _ => 0)))] H := hP
        have hD : va_D A [(h1, .inr (7, [.ref (md 0), .ref (md 1), .int 0, .int 0, .int 0, .int (-1), .int 0, .int 0, .int 0, .int 0, .long 0, .ref (md 11), .ref (md 12), .ref (md 13), .ref (md 14), .ref (md 15), .ref (md 16), .ref (md 17), .ref (md 18), .ref (md 19), .ref (md 20), .ref (md 21), .ref (md 22), .ref (md 23), .ref (md 24), .ref (md 25), .ref (md 26), .ref (md 27), .ref (md 28), .int 0, .int 0, .int 0, .int 0, .int 0, .int 0, .int 0, .int 0, .int 0, .int 0, .int 0, .ref (md 40), .ref (md 41), .int 0, .int 0, .ref (md 44), .int 0, .int 0, .ref (md 47), .ref (md 48), .int 0, .ref (md 50), .ref (md 51), .ref (md 52), .ref (md 53), .ref (md 54), .int 0, .int 0, .ref (md 57), .ref (md 58)])), (md 16, .inl (cyI, 2, .inl (fun _ => 0)))] := hD
        refine tp_c (w := 100) qu3146 ?_
        refine lv_idiv hx hb dX7_odds_61 (by decide) ?_
        refine tp_c (w := 1) (by decide) ?_
        exact W.iret (v := 1) hx hb hr (fun t ht hW => ⟨⟨1, (), rfl, (by first | decide | (unfold sp_odds; (repeat' split) <;> first | rfl | omega)), cE.nil⟩, hS.F ht⟩) hS.2.2 dX7_odds_62
  have c3112i := i_ne (b := 1) c3112 rfl (by decide)
  by_cases c3147 : x1 = 2
  · subst c3147
    have tc3147 : (2 : Int32).toInt = 2 := by decide
    have hl : lv_has ls 5 [(0, .ref h1), (1, .int 2), (2, .int x2)] := hl
    refine lv_iload_n hx hb dX7_odds_0 rfl (lv_at hl 1 rfl) ?_
    refine lv_iconst (v := 0) hx hb dX7_odds_1 (by decide) ?_
    refine lv_iconst (v := 4) hx hb dX7_odds_2 (by decide) ?_
    refine gf_i (wr := [(h1, .inr (7, [.ref (md 0), .ref (md 1), .int 0, .int 0, .int 0, .int (-1), .int 0, .int 0, .int 0, .int 0, .long 0, .ref (md 11), .ref (md 12), .ref (md 13), .ref (md 14), .ref (md 15), .ref (md 16), .ref (md 17), .ref (md 18), .ref (md 19), .ref (md 20), .ref (md 21), .ref (md 22), .ref (md 23), .ref (md 24), .ref (md 25), .ref (md 26), .ref (md 27), .ref (md 28), .int 0, .int 0, .int 0, .int 0, .int 0, .int 0, .int 0, .int 0, .int 0, .int 0, .int 0, .ref (md 40), .ref (md 41), .int 0, .int 0, .ref (md 44), .int 0, .int 0, .ref (md 47), .ref (md 48), .int 0, .ref (md 50), .ref (md 51), .ref (md 52), .ref (md 53), .ref (md 54), .int 0, .int 0, .ref (md 57), .ref (md 58)])), (md 16, .inl (cyI, 2, .inl (fun _ => 0)))]) (va_runS (As := [.int 2, .int 0, .int 4]) (rest := []) hfix (k_X7_isIn_v9 l dC dI cyB cyI cyJ cyZ cyO _) (va_cwS 3 hts (gi_S (ow_m (k := 0) rfl) (ow_m (k := 1) rfl) (ow_m (k := 2) rfl) (sb_c (sb_r (sb_r (sb_r (sb_r (sb_r (sb_r (sb_r sb_l)))))))) gd_k_X7_isIn_v9) rfl rfl rfl (by decide +kernel) ⟨Nat.le_of_ble_eq_true rfl, Nat.le_of_ble_eq_true rfl⟩) (g_preS hKN hP hD [] rfl (by decide)) rfl rfl hl.1 rfl (lv_room (Nat.le_of_ble_eq_true rfl)) dX7_odds_3 ⟨Nat.le_of_ble_eq_true rfl, Nat.le_of_ble_eq_true rfl⟩) hP hD hS hA [] [0, 1] rfl rfl (by decide) (by decide) (fun r3150 u3151 H locs qu3151 hP hD hS => ?_)
    have hP : va_P (dC, dI) vwCl [(h1, .inr (7, [.ref (md 0), .ref (md 1), .int 0, .int 0, .int 0, .int (-1), .int 0, .int 0, .int 0, .int 0, .long 0, .ref (md 11), .ref (md 12), .ref (md 13), .ref (md 14), .ref (md 15), .ref (md 16), .ref (md 17), .ref (md 18), .ref (md 19), .ref (md 20), .ref (md 21), .ref (md 22), .ref (md 23), .ref (md 24), .ref (md 25), .ref (md 26), .ref (md 27), .ref (md 28), .int 0, .int 0, .int 0, .int 0, .int 0, .int 0, .int 0, .int 0, .int 0, .int 0, .int 0, .ref (md 40), .ref (md 41), .int 0, .int 0, .ref (md 44), .int 0, .int 0, .ref (md 47), .ref (md 48), .int 0, .ref (md 50), .ref (md 51), .ref (md 52), .ref (md 53), .ref (md 54), .int 0, .int 0, .ref (md 57), .ref (md 58)])), (md 16, .inl (cyI, 2, .inl (fun _ => 0)))] H := hP
    have hD : va_D A [(h1, .inr (7, [.ref (md 0), .ref (md 1), .int 0, .int 0, .int 0, .int (-1), .int 0, .int 0, .int 0, .int 0, .long 0, .ref (md 11), .ref (md 12), .ref (md 13), .ref (md 14), .ref (md 15), .ref (md 16), .ref (md 17), .ref (md 18), .ref (md 19), .ref (md 20), .ref (md 21), .ref (md 22), .ref (md 23), .ref (md 24), .ref (md 25), .ref (md 26), .ref (md 27), .ref (md 28), .int 0, .int 0, .int 0, .int 0, .int 0, .int 0, .int 0, .int 0, .int 0, .int 0, .int 0, .ref (md 40), .ref (md 41), .int 0, .int 0, .ref (md 44), .int 0, .int 0, .ref (md 47), .ref (md 48), .int 0, .ref (md 50), .ref (md 51), .ref (md 52), .ref (md 53), .ref (md 54), .int 0, .int 0, .ref (md 57), .ref (md 58)])), (md 16, .inl (cyI, 2, .inl (fun _ => 0)))] := hD
    refine tp_c (w := 1) qu3151 ?_
    refine lv_if_eq (tgt := 18) hx hb dX7_odds_6 (by decide) (fun c3152 => absurd c3152 (by decide)) (fun _ => ?_)
    refine lv_iload_n hx hb dX7_odds_9 rfl (lv_at hl 2 rfl) ?_
    refine lv_iconst (v := 0) hx hb dX7_odds_10 (by decide) ?_
    refine lv_iconst (v := 1) hx hb dX7_odds_11 (by decide) ?_
    refine gf_i (wr := [(h1, .inr (7, [.ref (md 0), .ref (md 1), .int 0, .int 0, .int 0, .int (-1), .int 0, .int 0, .int 0, .int 0, .long 0, .ref (md 11), .ref (md 12), .ref (md 13), .ref (md 14), .ref (md 15), .ref (md 16), .ref (md 17), .ref (md 18), .ref (md 19), .ref (md 20), .ref (md 21), .ref (md 22), .ref (md 23), .ref (md 24), .ref (md 25), .ref (md 26), .ref (md 27), .ref (md 28), .int 0, .int 0, .int 0, .int 0, .int 0, .int 0, .int 0, .int 0, .int 0, .int 0, .int 0, .ref (md 40), .ref (md 41), .int 0, .int 0, .ref (md 44), .int 0, .int 0, .ref (md 47), .ref (md 48), .int 0, .ref (md 50), .ref (md 51), .ref (md 52), .ref (md 53), .ref (md 54), .int 0, .int 0, .ref (md 57), .ref (md 58)])), (md 16, .inl (cyI, 2, .inl (fun _ => 0)))]) (va_runS (As := [.int x2, .int 0, .int 1]) (rest := []) hfix (k_X7_isIn_v4 l dC dI cyB cyI cyJ cyZ cyO x2 _) (va_cwS 3 hts (gi_S (ow_m (k := 0) rfl) (ow_m (k := 1) rfl) (ow_m (k := 2) rfl) (sb_c (sb_r sb_l)) gd_k_X7_isIn_v4) rfl rfl rfl (by decide +kernel) ⟨Nat.le_of_ble_eq_true rfl, Nat.le_of_ble_eq_true rfl⟩) (g_preS hKN hP hD [] rfl (by decide)) rfl rfl hl.1 rfl (lv_room (Nat.le_of_ble_eq_true rfl)) dX7_odds_12 ⟨Nat.le_of_ble_eq_true rfl, Nat.le_of_ble_eq_true rfl⟩) hP hD hS hA [] [0, 1] rfl rfl (by decide) (by decide) (fun r3155 u3156 H locs qu3156 hP hD hS => ?_)
    have hP : va_P (dC, dI) vwCl [(h1, .inr (7, [.ref (md 0), .ref (md 1), .int 0, .int 0, .int 0, .int (-1), .int 0, .int 0, .int 0, .int 0, .long 0, .ref (md 11), .ref (md 12), .ref (md 13), .ref (md 14), .ref (md 15), .ref (md 16), .ref (md 17), .ref (md 18), .ref (md 19), .ref (md 20), .ref (md 21), .ref (md 22), .ref (md 23), .ref (md 24), .ref (md 25), .ref (md 26), .ref (md 27), .ref (md 28), .int 0, .int 0, .int 0, .int 0, .int 0, .int 0, .int 0, .int 0, .int 0, .int 0, .int 0, .ref (md 40), .ref (md 41), .int 0, .int 0, .ref (md 44), .int 0, .int 0, .ref (md 47), .ref (md 48), .int 0, .ref (md 50), .ref (md 51), .ref (md 52), .ref (md 53), .ref (md 54), .int 0, .int 0, .ref (md 57), .ref (md 58)])), (md 16, .inl (cyI, 2, .inl (fun _ => 0)))] H := hP
    have hD : va_D A [(h1, .inr (7, [.ref (md 0), .ref (md 1), .int 0, .int 0, .int 0, .int (-1), .int 0, .int 0, .int 0, .int 0, .long 0, .ref (md 11), .ref (md 12), .ref (md 13), .ref (md 14), .ref (md 15), .ref (md 16), .ref (md 17), .ref (md 18), .ref (md 19), .ref (md 20), .ref (md 21), .ref (md 22), .ref (md 23), .ref (md 24), .ref (md 25), .ref (md 26), .ref (md 27), .ref (md 28), .int 0, .int 0, .int 0, .int 0, .int 0, .int 0, .int 0, .int 0, .int 0, .int 0, .int 0, .ref (md 40), .ref (md 41), .int 0, .int 0, .ref (md 44), .int 0, .int 0, .ref (md 47), .ref (md 48), .int 0, .ref (md 50), .ref (md 51), .ref (md 52), .ref (md 53), .ref (md 54), .int 0, .int 0, .ref (md 57), .ref (md 58)])), (md 16, .inl (cyI, 2, .inl (fun _ => 0)))] := hD
    rcases qu3156 with ⟨rfl, b3157⟩ | ⟨rfl, b3158, b3159⟩ | ⟨rfl, b3160, b3161⟩
    · skip
      refine lv_if_ne (tgt := 20) hx hb dX7_odds_15 (by decide) (fun c3162 => absurd (by decide) c3162) (fun _ => ?_)
      refine lv_iconst (v := (-1)) hx hb dX7_odds_18 (by decide) ?_
      exact W.iret (v := (-1)) hx hb hr (fun t ht hW => ⟨⟨(-1), (), rfl, (by first | decide | (unfold sp_odds; (repeat' split) <;> first | rfl | omega)), cE.nil⟩, hS.F ht⟩) hS.2.2 dX7_odds_19
    · skip
      refine lv_if_ne (tgt := 20) hx hb dX7_odds_15 (by decide) (fun c3163 => absurd (by decide) c3163) (fun _ => ?_)
      refine lv_iconst (v := (-1)) hx hb dX7_odds_18 (by decide) ?_
      exact W.iret (v := (-1)) hx hb hr (fun t ht hW => ⟨⟨(-1), (), rfl, (by first | decide | (unfold sp_odds; (repeat' split) <;> first | rfl | omega)), cE.nil⟩, hS.F ht⟩) hS.2.2 dX7_odds_19
    · skip
      refine lv_if_ne (tgt := 20) hx hb dX7_odds_15 (by decide) (fun _ => ?_) (fun c3164 => absurd c3164 (by decide))
      refine lv_bipush (v := 100) hx hb dX7_odds_20 (by decide) ?_
      refine lv_aload_n hx hb dX7_odds_22 rfl (lv_at hl 0 rfl) ?_
      refine va_get (D := (dC, dI)) (ci := 7) (v := .ref (md 16)) (C := RX7) (T := TX7) (N := 59) hx hb hts hi7 hown hK hP 0 rfl rfl 16 (by decide) (hts _ (ow_m (k := 3) rfl)) (fun _ h9 => h9) rfl dX7_odds_23 ?_
      refine lv_aload_n hx hb dX7_odds_26 rfl (lv_at hl 0 rfl) ?_
      refine va_get (D := (dC, dI)) (ci := 7) (v := .int 0) (C := RX7) (T := TX7) (N := 59) hx hb hts hi7 hown hK hP 0 rfl rfl 29 (by decide) (hts _ (ow_m (k := 4) rfl)) (fun _ h9 => h9) rfl dX7_odds_27 ?_
      refine va_iald hx hb hK hP 1 1 rfl rfl (vp_i (a := 0) (by decide) (by decide) (by decide)) dX7_odds_30 ?_
      refine tp_c (w := 0) (by rfl) ?_
      refine lv_isub hx hb dX7_odds_31 ?_
      refine tp_c (w := 100) (by decide) ?_
      refine lv_iload_n hx hb dX7_odds_32 rfl (lv_at hl 1 rfl) ?_
      refine gf_i (wr := [(h1, .inr (7, [.ref (md 0), .ref (md 1), .int 0, .int 0, .int 0, .int (-1), .int 0, .int 0, .int 0, .int 0, .long 0, .ref (md 11), .ref (md 12), .ref (md 13), .ref (md 14), .ref (md 15), .ref (md 16), .ref (md 17), .ref (md 18), .ref (md 19), .ref (md 20), .ref (md 21), .ref (md 22), .ref (md 23), .ref (md 24), .ref (md 25), .ref (md 26), .ref (md 27), .ref (md 28), .int 0, .int 0, .int 0, .int 0, .int 0, .int 0, .int 0, .int 0, .int 0, .int 0, .int 0, .ref (md 40), .ref (md 41), .int 0, .int 0, .ref (md 44), .int 0, .int 0, .ref (md 47), .ref (md 48), .int 0, .ref (md 50), .ref (md 51), .ref (md 52), .ref (md 53), .ref (md 54), .int 0, .int 0, .ref (md 57), .ref (md 58)])), (md 16, .inl (cyI, 2, .inl (fun _ => 0)))]) (va_runS (As := [.int 100, .int 2]) (rest := []) hfix (k_X7_power_v3 l dC dI cyB cyI cyJ cyZ cyO _) (va_cwS 2 hts (gi_S (ow_m (k := 5) rfl) (ow_m (k := 6) rfl) (ow_m (k := 2) rfl) (sb_c (sb_r (sb_r (sb_r (sb_r (sb_r (sb_r (sb_r (sb_r sb_l))))))))) gd_k_X7_power_v3) rfl rfl rfl (by decide +kernel) ⟨Nat.le_of_ble_eq_true rfl, Nat.le_of_ble_eq_true rfl⟩) (g_preS hKN hP hD [] rfl (by decide)) rfl rfl hl.1 rfl (lv_room (Nat.le_of_ble_eq_true rfl)) dX7_odds_33 ⟨Nat.le_of_ble_eq_true rfl, Nat.le_of_ble_eq_true rfl⟩) hP hD hS hA [] [0, 1] rfl rfl (by decide) (by decide) (fun r3168 u3169 H locs qu3169 hP hD hS => ?_)
      have hP : va_P (dC, dI) vwCl [(h1, .inr (7, [.ref (md 0), .ref (md 1), .int 0, .int 0, .int 0, .int (-1), .int 0, .int 0, .int 0, .int 0, .long 0, .ref (md 11), .ref (md 12), .ref (md 13), .ref (md 14), .ref (md 15), .ref (md 16), .ref (md 17), .ref (md 18), .ref (md 19), .ref (md 20), .ref (md 21), .ref (md 22), .ref (md 23), .ref (md 24), .ref (md 25), .ref (md 26), .ref (md 27), .ref (md 28), .int 0, .int 0, .int 0, .int 0, .int 0, .int 0, .int 0, .int 0, .int 0, .int 0, .int 0, .ref (md 40), .ref (md 41), .int 0, .int 0, .ref (md 44), .int 0, .int 0, .ref (md 47), .ref (md 48), .int 0, .ref (md 50), .ref (md 51), .ref (md 52), .ref (md 53), .ref (md 54), .int 0, .int 0, .ref (md 57), .ref (md 58)])), (md 16, .inl (cyI, 2, .inl (fun _ => 0)))] H := hP
      have hD : va_D A [(h1, .inr (7, [.ref (md 0), .ref (md 1), .int 0, .int 0, .int 0, .int (-1), .int 0, .int 0, .int 0, .int 0, .long 0, .ref (md 11), .ref (md 12), .ref (md 13), .ref (md 14), .ref (md 15), .ref (md 16), .ref (md 17), .ref (md 18), .ref (md 19), .ref (md 20), .ref (md 21), .ref (md 22), .ref (md 23), .ref (md 24), .ref (md 25), .ref (md 26), .ref (md 27), .ref (md 28), .int 0, .int 0, .int 0, .int 0, .int 0, .int 0, .int 0, .int 0, .int 0, .int 0, .int 0, .ref (md 40), .ref (md 41), .int 0, .int 0, .ref (md 44), .int 0, .int 0, .ref (md 47), .ref (md 48), .int 0, .ref (md 50), .ref (md 51), .ref (md 52), .ref (md 53), .ref (md 54), .int 0, .int 0, .ref (md 57), .ref (md 58)])), (md 16, .inl (cyI, 2, .inl (fun _ => 0)))] := hD
      refine tp_c (w := 10000) qu3169 ?_
      refine lv_istore_n (lv' := [(3, .int 10000), (0, .ref h1), (1, .int 2), (2, .int x2)]) hx hb dX7_odds_36 rfl hl (by decide) rfl (fun ls hl => ?_)
      refine lv_bipush (v := 100) hx hb dX7_odds_37 (by decide) ?_
      refine lv_iload_n hx hb dX7_odds_39 rfl (lv_at hl 2 rfl) ?_
      refine gf_i (wr := [(h1, .inr (7, [.ref (md 0), .ref (md 1), .int 0, .int 0, .int 0, .int (-1), .int 0, .int 0, .int 0, .int 0, .long 0, .ref (md 11), .ref (md 12), .ref (md 13), .ref (md 14), .ref (md 15), .ref (md 16), .ref (md 17), .ref (md 18), .ref (md 19), .ref (md 20), .ref (md 21), .ref (md 22), .ref (md 23), .ref (md 24), .ref (md 25), .ref (md 26), .ref (md 27), .ref (md 28), .int 0, .int 0, .int 0, .int 0, .int 0, .int 0, .int 0, .int 0, .int 0, .int 0, .int 0, .ref (md 40), .ref (md 41), .int 0, .int 0, .ref (md 44), .int 0, .int 0, .ref (md 47), .ref (md 48), .int 0, .ref (md 50), .ref (md 51), .ref (md 52), .ref (md 53), .ref (md 54), .int 0, .int 0, .ref (md 57), .ref (md 58)])), (md 16, .inl (cyI, 2, .inl (fun _ => 0)))]) (va_runS (As := [.int 100, .int 2]) (rest := []) hfix (k_X7_power_v3 l dC dI cyB cyI cyJ cyZ cyO _) (va_cwS 2 hts (gi_S (ow_m (k := 5) rfl) (ow_m (k := 6) rfl) (ow_m (k := 2) rfl) (sb_c (sb_r (sb_r (sb_r (sb_r (sb_r (sb_r (sb_r (sb_r sb_l))))))))) gd_k_X7_power_v3) rfl rfl rfl (by decide +kernel) ⟨Nat.le_of_ble_eq_true rfl, Nat.le_of_ble_eq_true rfl⟩) (g_preS hKN hP hD [] rfl (by decide)) rfl rfl hl.1 rfl (lv_room (Nat.le_of_ble_eq_true rfl)) dX7_odds_40 ⟨Nat.le_of_ble_eq_true rfl, Nat.le_of_ble_eq_true rfl⟩) hP hD hS hA [] [0, 1] rfl rfl (by decide) (by decide) (fun r3173 u3174 H locs qu3174 hP hD hS => ?_)
      have hP : va_P (dC, dI) vwCl [(h1, .inr (7, [.ref (md 0), .ref (md 1), .int 0, .int 0, .int 0, .int (-1), .int 0, .int 0, .int 0, .int 0, .long 0, .ref (md 11), .ref (md 12), .ref (md 13), .ref (md 14), .ref (md 15), .ref (md 16), .ref (md 17), .ref (md 18), .ref (md 19), .ref (md 20), .ref (md 21), .ref (md 22), .ref (md 23), .ref (md 24), .ref (md 25), .ref (md 26), .ref (md 27), .ref (md 28), .int 0, .int 0, .int 0, .int 0, .int 0, .int 0, .int 0, .int 0, .int 0, .int 0, .int 0, .ref (md 40), .ref (md 41), .int 0, .int 0, .ref (md 44), .int 0, .int 0, .ref (md 47), .ref (md 48), .int 0, .ref (md 50), .ref (md 51), .ref (md 52), .ref (md 53), .ref (md 54), .int 0, .int 0, .ref (md 57), .ref (md 58)])), (md 16, .inl (cyI, 2, .inl (fun _ => 0)))] H := hP
      have hD : va_D A [(h1, .inr (7, [.ref (md 0), .ref (md 1), .int 0, .int 0, .int 0, .int (-1), .int 0, .int 0, .int 0, .int 0, .long 0, .ref (md 11), .ref (md 12), .ref (md 13), .ref (md 14), .ref (md 15), .ref (md 16), .ref (md 17), .ref (md 18), .ref (md 19), .ref (md 20), .ref (md 21), .ref (md 22), .ref (md 23), .ref (md 24), .ref (md 25), .ref (md 26), .ref (md 27), .ref (md 28), .int 0, .int 0, .int 0, .int 0, .int 0, .int 0, .int 0, .int 0, .int 0, .int 0, .int 0, .ref (md 40), .ref (md 41), .int 0, .int 0, .ref (md 44), .int 0, .int 0, .ref (md 47), .ref (md 48), .int 0, .ref (md 50), .ref (md 51), .ref (md 52), .ref (md 53), .ref (md 54), .int 0, .int 0, .ref (md 57), .ref (md 58)])), (md 16, .inl (cyI, 2, .inl (fun _ => 0)))] := hD
      refine tp_c (w := 10000) qu3174 ?_
      refine lv_istore (lv' := [(4, .int 10000), (3, .int 10000), (0, .ref h1), (1, .int 2), (2, .int x2)]) hx hb dX7_odds_43 hl (by decide) rfl (fun ls hl => ?_)
      refine lv_iload_n hx hb dX7_odds_45 rfl (lv_at hl 4 rfl) ?_
      refine lv_if_ne (tgt := 53) hx hb dX7_odds_46 (by decide) (fun c3175 => ?_) (fun c3175 => ?_)
      · have c3175 := i_ne (a := x2.toInt) (b := 0) c3175 rfl (by decide)
        refine lv_iload hx hb dX7_odds_53 (lv_at hl 0 rfl) ?_
        refine lv_iload hx hb dX7_odds_55 (lv_at hl 0 rfl) ?_
        refine lv_iload_n hx hb dX7_odds_57 rfl (lv_at hl 1 rfl) ?_
        refine gf_i (wr := [(h1, .inr (7, [.ref (md 0), .ref (md 1), .int 0, .int 0, .int 0, .int (-1), .int 0, .int 0, .int 0, .int 0, .long 0, .ref (md 11), .ref (md 12), .ref (md 13), .ref (md 14), .ref (md 15), .ref (md 16), .ref (md 17), .ref (md 18), .ref (md 19), .ref (md 20), .ref (md 21), .ref (md 22), .ref (md 23), .ref (md 24), .ref (md 25), .ref (md 26), .ref (md 27), .ref (md 28), .int 0, .int 0, .int 0, .int 0, .int 0, .int 0, .int 0, .int 0, .int 0, .int 0, .int 0, .ref (md 40), .ref (md 41), .int 0, .int 0, .ref (md 44), .int 0, .int 0, .ref (md 47), .ref (md 48), .int 0, .ref (md 50), .ref (md 51), .ref (md 52), .ref (md 53), .ref (md 54), .int 0, .int 0, .ref (md 57), .ref (md 58)])), (md 16, .inl (cyI, 2, .inl (fun _ => 0)))]) (va_runS (As := [.int 10000, .int 10000]) (rest := [.int 10000]) hfix (k_X7_divisor_v3 l dC dI cyB cyI cyJ cyZ cyO _) (va_cwS 2 hts (gi_S (ow_m (k := 7) rfl) (ow_m (k := 8) rfl) (ow_m (k := 2) rfl) (sb_c (sb_r (sb_r (sb_r (sb_r (sb_r (sb_r (sb_r (sb_r (sb_r sb_l)))))))))) gd_k_X7_divisor_v3) rfl rfl rfl (by decide +kernel) ⟨Nat.le_of_ble_eq_true rfl, Nat.le_of_ble_eq_true rfl⟩) (g_preS hKN hP hD [] rfl (by decide)) rfl rfl hl.1 rfl (lv_room (Nat.le_of_ble_eq_true rfl)) dX7_odds_58 ⟨Nat.le_of_ble_eq_true rfl, Nat.le_of_ble_eq_true rfl⟩) hP hD hS hA [] [0, 1] rfl rfl (by decide) (by decide) (fun r3178 u3179 H locs qu3179 hP hD hS => ?_)
        have hP : va_P (dC, dI) vwCl [(h1, .inr (7, [.ref (md 0), .ref (md 1), .int 0, .int 0, .int 0, .int (-1), .int 0, .int 0, .int 0, .int 0, .long 0, .ref (md 11), .ref (md 12), .ref (md 13), .ref (md 14), .ref (md 15), .ref (md 16), .ref (md 17), .ref (md 18), .ref (md 19), .ref (md 20), .ref (md 21), .ref (md 22), .ref (md 23), .ref (md 24), .ref (md 25), .ref (md 26), .ref (md 27), .ref (md 28), .int 0, .int 0, .int 0, .int 0, .int 0, .int 0, .int 0, .int 0, .int 0, .int 0, .int 0, .ref (md 40), .ref (md 41), .int 0, .int 0, .ref (md 44), .int 0, .int 0, .ref (md 47), .ref (md 48), .int 0, .ref (md 50), .ref (md 51), .ref (md 52), .ref (md 53), .ref (md 54), .int 0, .int 0, .ref (md 57), .ref (md 58)])), (md 16, .inl (cyI, 2, .inl (fun _ => 0)))] H := hP
        have hD : va_D A [(h1, .inr (7, [.ref (md 0), .ref (md 1), .int 0, .int 0, .int 0, .int (-1), .int 0, .int 0, .int 0, .int 0, .long 0, .ref (md 11), .ref (md 12), .ref (md 13), .ref (md 14), .ref (md 15), .ref (md 16), .ref (md 17), .ref (md 18), .ref (md 19), .ref (md 20), .ref (md 21), .ref (md 22), .ref (md 23), .ref (md 24), .ref (md 25), .ref (md 26), .ref (md 27), .ref (md 28), .int 0, .int 0, .int 0, .int 0, .int 0, .int 0, .int 0, .int 0, .int 0, .int 0, .int 0, .ref (md 40), .ref (md 41), .int 0, .int 0, .ref (md 44), .int 0, .int 0, .ref (md 47), .ref (md 48), .int 0, .ref (md 50), .ref (md 51), .ref (md 52), .ref (md 53), .ref (md 54), .int 0, .int 0, .ref (md 57), .ref (md 58)])), (md 16, .inl (cyI, 2, .inl (fun _ => 0)))] := hD
        refine tp_c (w := 10000) qu3179 ?_
        refine lv_idiv hx hb dX7_odds_61 (by decide) ?_
        refine tp_c (w := 1) (by decide) ?_
        exact W.iret (v := 1) hx hb hr (fun t ht hW => ⟨⟨1, (), rfl, (by first | decide | (unfold sp_odds; (repeat' split) <;> first | rfl | omega)), cE.nil⟩, hS.F ht⟩) hS.2.2 dX7_odds_62
      · have c3175 := i_eq (a := x2.toInt) (b := 0) c3175 rfl (by decide)
        refine lv_iload_n hx hb dX7_odds_49 rfl (lv_at hl 1 rfl) ?_
        refine lv_goto (tgt := 55) hx hb dX7_odds_50 (by decide) ?_
        refine lv_iload hx hb dX7_odds_55 (lv_at hl 0 rfl) ?_
        refine lv_iload_n hx hb dX7_odds_57 rfl (lv_at hl 1 rfl) ?_
        refine gf_i (wr := [(h1, .inr (7, [.ref (md 0), .ref (md 1), .int 0, .int 0, .int 0, .int (-1), .int 0, .int 0, .int 0, .int 0, .long 0, .ref (md 11), .ref (md 12), .ref (md 13), .ref (md 14), .ref (md 15), .ref (md 16), .ref (md 17), .ref (md 18), .ref (md 19), .ref (md 20), .ref (md 21), .ref (md 22), .ref (md 23), .ref (md 24), .ref (md 25), .ref (md 26), .ref (md 27), .ref (md 28), .int 0, .int 0, .int 0, .int 0, .int 0, .int 0, .int 0, .int 0, .int 0, .int 0, .int 0, .ref (md 40), .ref (md 41), .int 0, .int 0, .ref (md 44), .int 0, .int 0, .ref (md 47), .ref (md 48), .int 0, .ref (md 50), .ref (md 51), .ref (md 52), .ref (md 53), .ref (md 54), .int 0, .int 0, .ref (md 57), .ref (md 58)])), (md 16, .inl (cyI, 2, .inl (fun _ => 0)))]) (va_runS (As := [.int 10000, .int 10000]) (rest := [.int 10000]) hfix (k_X7_divisor_v3 l dC dI cyB cyI cyJ cyZ cyO _) (va_cwS 2 hts (gi_S (ow_m (k := 7) rfl) (ow_m (k := 8) rfl) (ow_m (k := 2) rfl) (sb_c (sb_r (sb_r (sb_r (sb_r (sb_r (sb_r (sb_r (sb_r (sb_r sb_l)))))))))) gd_k_X7_divisor_v3) rfl rfl rfl (by decide +kernel) ⟨Nat.le_of_ble_eq_true rfl, Nat.le_of_ble_eq_true rfl⟩) (g_preS hKN hP hD [] rfl (by decide)) rfl rfl hl.1 rfl (lv_room (Nat.le_of_ble_eq_true rfl)) dX7_odds_58 ⟨Nat.le_of_ble_eq_true rfl, Nat.le_of_ble_eq_true rfl⟩) hP hD hS hA [] [0, 1] rfl rfl (by decide) (by decide) (fun r3182 u3183 H locs qu3183 hP hD hS => ?_)
        have hP : va_P (dC, dI) vwCl [(h1, .inr (7, [.ref (md 0), .ref (md 1), .int 0, .int 0, .int 0, .int (-1), .int 0, .int 0, .int 0, .int 0, .long 0, .ref (md 11), .ref (md 12), .ref (md 13), .ref (md 14), .ref (md 15), .ref (md 16), .ref (md 17), .ref (md 18), .ref (md 19), .ref (md 20), .ref (md 21), .ref (md 22), .ref (md 23), .ref (md 24), .ref (md 25), .ref (md 26), .ref (md 27), .ref (md 28), .int 0, .int 0, .int 0, .int 0, .int 0, .int 0, .int 0, .int 0, .int 0, .int 0, .int 0, .ref (md 40), .ref (md 41), .int 0, .int 0, .ref (md 44), .int 0, .int 0, .ref (md 47), .ref (md 48), .int 0, .ref (md 50), .ref (md 51), .ref (md 52), .ref (md 53), .ref (md 54), .int 0, .int 0, .ref (md 57), .ref (md 58)])), (md 16, .inl (cyI, 2, .inl (fun _ => 0)))] H := hP
        have hD : va_D A [(h1, .inr (7, [.ref (md 0), .ref (md 1), .int 0, .int 0, .int 0, .int (-1), .int 0, .int 0, .int 0, .int 0, .long 0, .ref (md 11), .ref (md 12), .ref (md 13), .ref (md 14), .ref (md 15), .ref (md 16), .ref (md 17), .ref (md 18), .ref (md 19), .ref (md 20), .ref (md 21), .ref (md 22), .ref (md 23), .ref (md 24), .ref (md 25), .ref (md 26), .ref (md 27), .ref (md 28), .int 0, .int 0, .int 0, .int 0, .int 0, .int 0, .int 0, .int 0, .int 0, .int 0, .int 0, .ref (md 40), .ref (md 41), .int 0, .int 0, .ref (md 44), .int 0, .int 0, .ref (md 47), .ref (md 48), .int 0, .ref (md 50), .ref (md 51), .ref (md 52), .ref (md 53), .ref (md 54), .int 0, .int 0, .ref (md 57), .ref (md 58)])), (md 16, .inl (cyI, 2, .inl (fun _ => 0)))] := hD
        refine tp_c (w := 10000) qu3183 ?_
        refine lv_idiv hx hb dX7_odds_61 (by decide) ?_
        refine tp_c (w := 1) (by decide) ?_
        exact W.iret (v := 1) hx hb hr (fun t ht hW => ⟨⟨1, (), rfl, (by first | decide | (unfold sp_odds; (repeat' split) <;> first | rfl | omega)), cE.nil⟩, hS.F ht⟩) hS.2.2 dX7_odds_62
  have c3147i := i_ne (b := 2) c3147 rfl (by decide)
  by_cases c3184 : x1 = 3
  · subst c3184
    have tc3184 : (3 : Int32).toInt = 3 := by decide
    have hl : lv_has ls 5 [(0, .ref h1), (1, .int 3), (2, .int x2)] := hl
    refine lv_iload_n hx hb dX7_odds_0 rfl (lv_at hl 1 rfl) ?_
    refine lv_iconst (v := 0) hx hb dX7_odds_1 (by decide) ?_
    refine lv_iconst (v := 4) hx hb dX7_odds_2 (by decide) ?_
    refine gf_i (wr := [(h1, .inr (7, [.ref (md 0), .ref (md 1), .int 0, .int 0, .int 0, .int (-1), .int 0, .int 0, .int 0, .int 0, .long 0, .ref (md 11), .ref (md 12), .ref (md 13), .ref (md 14), .ref (md 15), .ref (md 16), .ref (md 17), .ref (md 18), .ref (md 19), .ref (md 20), .ref (md 21), .ref (md 22), .ref (md 23), .ref (md 24), .ref (md 25), .ref (md 26), .ref (md 27), .ref (md 28), .int 0, .int 0, .int 0, .int 0, .int 0, .int 0, .int 0, .int 0, .int 0, .int 0, .int 0, .ref (md 40), .ref (md 41), .int 0, .int 0, .ref (md 44), .int 0, .int 0, .ref (md 47), .ref (md 48), .int 0, .ref (md 50), .ref (md 51), .ref (md 52), .ref (md 53), .ref (md 54), .int 0, .int 0, .ref (md 57), .ref (md 58)])), (md 16, .inl (cyI, 2, .inl (fun _ => 0)))]) (va_runS (As := [.int 3, .int 0, .int 4]) (rest := []) hfix (k_X7_isIn_v10 l dC dI cyB cyI cyJ cyZ cyO _) (va_cwS 3 hts (gi_S (ow_m (k := 0) rfl) (ow_m (k := 1) rfl) (ow_m (k := 2) rfl) (sb_c (sb_r (sb_r (sb_r (sb_r (sb_r (sb_r (sb_r (sb_r (sb_r (sb_r sb_l))))))))))) gd_k_X7_isIn_v10) rfl rfl rfl (by decide +kernel) ⟨Nat.le_of_ble_eq_true rfl, Nat.le_of_ble_eq_true rfl⟩) (g_preS hKN hP hD [] rfl (by decide)) rfl rfl hl.1 rfl (lv_room (Nat.le_of_ble_eq_true rfl)) dX7_odds_3 ⟨Nat.le_of_ble_eq_true rfl, Nat.le_of_ble_eq_true rfl⟩) hP hD hS hA [] [0, 1] rfl rfl (by decide) (by decide) (fun r3187 u3188 H locs qu3188 hP hD hS => ?_)
    have hP : va_P (dC, dI) vwCl [(h1, .inr (7, [.ref (md 0), .ref (md 1), .int 0, .int 0, .int 0, .int (-1), .int 0, .int 0, .int 0, .int 0, .long 0, .ref (md 11), .ref (md 12), .ref (md 13), .ref (md 14), .ref (md 15), .ref (md 16), .ref (md 17), .ref (md 18), .ref (md 19), .ref (md 20), .ref (md 21), .ref (md 22), .ref (md 23), .ref (md 24), .ref (md 25), .ref (md 26), .ref (md 27), .ref (md 28), .int 0, .int 0, .int 0, .int 0, .int 0, .int 0, .int 0, .int 0, .int 0, .int 0, .int 0, .ref (md 40), .ref (md 41), .int 0, .int 0, .ref (md 44), .int 0, .int 0, .ref (md 47), .ref (md 48), .int 0, .ref (md 50), .ref (md 51), .ref (md 52), .ref (md 53), .ref (md 54), .int 0, .int 0, .ref (md 57), .ref (md 58)])), (md 16, .inl (cyI, 2, .inl (fun _ => 0)))] H := hP
    have hD : va_D A [(h1, .inr (7, [.ref (md 0), .ref (md 1), .int 0, .int 0, .int 0, .int (-1), .int 0, .int 0, .int 0, .int 0, .long 0, .ref (md 11), .ref (md 12), .ref (md 13), .ref (md 14), .ref (md 15), .ref (md 16), .ref (md 17), .ref (md 18), .ref (md 19), .ref (md 20), .ref (md 21), .ref (md 22), .ref (md 23), .ref (md 24), .ref (md 25), .ref (md 26), .ref (md 27), .ref (md 28), .int 0, .int 0, .int 0, .int 0, .int 0, .int 0, .int 0, .int 0, .int 0, .int 0, .int 0, .ref (md 40), .ref (md 41), .int 0, .int 0, .ref (md 44), .int 0, .int 0, .ref (md 47), .ref (md 48), .int 0, .ref (md 50), .ref (md 51), .ref (md 52), .ref (md 53), .ref (md 54), .int 0, .int 0, .ref (md 57), .ref (md 58)])), (md 16, .inl (cyI, 2, .inl (fun _ => 0)))] := hD
    refine tp_c (w := 1) qu3188 ?_
    refine lv_if_eq (tgt := 18) hx hb dX7_odds_6 (by decide) (fun c3189 => absurd c3189 (by decide)) (fun _ => ?_)
    refine lv_iload_n hx hb dX7_odds_9 rfl (lv_at hl 2 rfl) ?_
    refine lv_iconst (v := 0) hx hb dX7_odds_10 (by decide) ?_
    refine lv_iconst (v := 1) hx hb dX7_odds_11 (by decide) ?_
    refine gf_i (wr := [(h1, .inr (7, [.ref (md 0), .ref (md 1), .int 0, .int 0, .int 0, .int (-1), .int 0, .int 0, .int 0, .int 0, .long 0, .ref (md 11), .ref (md 12), .ref (md 13), .ref (md 14), .ref (md 15), .ref (md 16), .ref (md 17), .ref (md 18), .ref (md 19), .ref (md 20), .ref (md 21), .ref (md 22), .ref (md 23), .ref (md 24), .ref (md 25), .ref (md 26), .ref (md 27), .ref (md 28), .int 0, .int 0, .int 0, .int 0, .int 0, .int 0, .int 0, .int 0, .int 0, .int 0, .int 0, .ref (md 40), .ref (md 41), .int 0, .int 0, .ref (md 44), .int 0, .int 0, .ref (md 47), .ref (md 48), .int 0, .ref (md 50), .ref (md 51), .ref (md 52), .ref (md 53), .ref (md 54), .int 0, .int 0, .ref (md 57), .ref (md 58)])), (md 16, .inl (cyI, 2, .inl (fun _ => 0)))]) (va_runS (As := [.int x2, .int 0, .int 1]) (rest := []) hfix (k_X7_isIn_v4 l dC dI cyB cyI cyJ cyZ cyO x2 _) (va_cwS 3 hts (gi_S (ow_m (k := 0) rfl) (ow_m (k := 1) rfl) (ow_m (k := 2) rfl) (sb_c (sb_r sb_l)) gd_k_X7_isIn_v4) rfl rfl rfl (by decide +kernel) ⟨Nat.le_of_ble_eq_true rfl, Nat.le_of_ble_eq_true rfl⟩) (g_preS hKN hP hD [] rfl (by decide)) rfl rfl hl.1 rfl (lv_room (Nat.le_of_ble_eq_true rfl)) dX7_odds_12 ⟨Nat.le_of_ble_eq_true rfl, Nat.le_of_ble_eq_true rfl⟩) hP hD hS hA [] [0, 1] rfl rfl (by decide) (by decide) (fun r3192 u3193 H locs qu3193 hP hD hS => ?_)
    have hP : va_P (dC, dI) vwCl [(h1, .inr (7, [.ref (md 0), .ref (md 1), .int 0, .int 0, .int 0, .int (-1), .int 0, .int 0, .int 0, .int 0, .long 0, .ref (md 11), .ref (md 12), .ref (md 13), .ref (md 14), .ref (md 15), .ref (md 16), .ref (md 17), .ref (md 18), .ref (md 19), .ref (md 20), .ref (md 21), .ref (md 22), .ref (md 23), .ref (md 24), .ref (md 25), .ref (md 26), .ref (md 27), .ref (md 28), .int 0, .int 0, .int 0, .int 0, .int 0, .int 0, .int 0, .int 0, .int 0, .int 0, .int 0, .ref (md 40), .ref (md 41), .int 0, .int 0, .ref (md 44), .int 0, .int 0, .ref (md 47), .ref (md 48), .int 0, .ref (md 50), .ref (md 51), .ref (md 52), .ref (md 53), .ref (md 54), .int 0, .int 0, .ref (md 57), .ref (md 58)])), (md 16, .inl (cyI, 2, .inl (fun _ => 0)))] H := hP
    have hD : va_D A [(h1, .inr (7, [.ref (md 0), .ref (md 1), .int 0, .int 0, .int 0, .int (-1), .int 0, .int 0, .int 0, .int 0, .long 0, .ref (md 11), .ref (md 12), .ref (md 13), .ref (md 14), .ref (md 15), .ref (md 16), .ref (md 17), .ref (md 18), .ref (md 19), .ref (md 20), .ref (md 21), .ref (md 22), .ref (md 23), .ref (md 24), .ref (md 25), .ref (md 26), .ref (md 27), .ref (md 28), .int 0, .int 0, .int 0, .int 0, .int 0, .int 0, .int 0, .int 0, .int 0, .int 0, .int 0, .ref (md 40), .ref (md 41), .int 0, .int 0, .ref (md 44), .int 0, .int 0, .ref (md 47), .ref (md 48), .int 0, .ref (md 50), .ref (md 51), .ref (md 52), .ref (md 53), .ref (md 54), .int 0, .int 0, .ref (md 57), .ref (md 58)])), (md 16, .inl (cyI, 2, .inl (fun _ => 0)))] := hD
    rcases qu3193 with ⟨rfl, b3194⟩ | ⟨rfl, b3195, b3196⟩ | ⟨rfl, b3197, b3198⟩
    · skip
      refine lv_if_ne (tgt := 20) hx hb dX7_odds_15 (by decide) (fun c3199 => absurd (by decide) c3199) (fun _ => ?_)
      refine lv_iconst (v := (-1)) hx hb dX7_odds_18 (by decide) ?_
      exact W.iret (v := (-1)) hx hb hr (fun t ht hW => ⟨⟨(-1), (), rfl, (by first | decide | (unfold sp_odds; (repeat' split) <;> first | rfl | omega)), cE.nil⟩, hS.F ht⟩) hS.2.2 dX7_odds_19
    · skip
      refine lv_if_ne (tgt := 20) hx hb dX7_odds_15 (by decide) (fun c3200 => absurd (by decide) c3200) (fun _ => ?_)
      refine lv_iconst (v := (-1)) hx hb dX7_odds_18 (by decide) ?_
      exact W.iret (v := (-1)) hx hb hr (fun t ht hW => ⟨⟨(-1), (), rfl, (by first | decide | (unfold sp_odds; (repeat' split) <;> first | rfl | omega)), cE.nil⟩, hS.F ht⟩) hS.2.2 dX7_odds_19
    · skip
      refine lv_if_ne (tgt := 20) hx hb dX7_odds_15 (by decide) (fun _ => ?_) (fun c3201 => absurd c3201 (by decide))
      refine lv_bipush (v := 100) hx hb dX7_odds_20 (by decide) ?_
      refine lv_aload_n hx hb dX7_odds_22 rfl (lv_at hl 0 rfl) ?_
      refine va_get (D := (dC, dI)) (ci := 7) (v := .ref (md 16)) (C := RX7) (T := TX7) (N := 59) hx hb hts hi7 hown hK hP 0 rfl rfl 16 (by decide) (hts _ (ow_m (k := 3) rfl)) (fun _ h9 => h9) rfl dX7_odds_23 ?_
      refine lv_aload_n hx hb dX7_odds_26 rfl (lv_at hl 0 rfl) ?_
      refine va_get (D := (dC, dI)) (ci := 7) (v := .int 0) (C := RX7) (T := TX7) (N := 59) hx hb hts hi7 hown hK hP 0 rfl rfl 29 (by decide) (hts _ (ow_m (k := 4) rfl)) (fun _ h9 => h9) rfl dX7_odds_27 ?_
      refine va_iald hx hb hK hP 1 1 rfl rfl (vp_i (a := 0) (by decide) (by decide) (by decide)) dX7_odds_30 ?_
      refine tp_c (w := 0) (by rfl) ?_
      refine lv_isub hx hb dX7_odds_31 ?_
      refine tp_c (w := 100) (by decide) ?_
      refine lv_iload_n hx hb dX7_odds_32 rfl (lv_at hl 1 rfl) ?_
      refine gf_i (wr := [(h1, .inr (7, [.ref (md 0), .ref (md 1), .int 0, .int 0, .int 0, .int (-1), .int 0, .int 0, .int 0, .int 0, .long 0, .ref (md 11), .ref (md 12), .ref (md 13), .ref (md 14), .ref (md 15), .ref (md 16), .ref (md 17), .ref (md 18), .ref (md 19), .ref (md 20), .ref (md 21), .ref (md 22), .ref (md 23), .ref (md 24), .ref (md 25), .ref (md 26), .ref (md 27), .ref (md 28), .int 0, .int 0, .int 0, .int 0, .int 0, .int 0, .int 0, .int 0, .int 0, .int 0, .int 0, .ref (md 40), .ref (md 41), .int 0, .int 0, .ref (md 44), .int 0, .int 0, .ref (md 47), .ref (md 48), .int 0, .ref (md 50), .ref (md 51), .ref (md 52), .ref (md 53), .ref (md 54), .int 0, .int 0, .ref (md 57), .ref (md 58)])), (md 16, .inl (cyI, 2, .inl (fun _ => 0)))]) (va_runS (As := [.int 100, .int 3]) (rest := []) hfix (k_X7_power_v4 l dC dI cyB cyI cyJ cyZ cyO _) (va_cwS 2 hts (gi_S (ow_m (k := 5) rfl) (ow_m (k := 6) rfl) (ow_m (k := 2) rfl) (sb_c (sb_r (sb_r (sb_r (sb_r (sb_r (sb_r (sb_r (sb_r (sb_r (sb_r (sb_r sb_l)))))))))))) gd_k_X7_power_v4) rfl rfl rfl (by decide +kernel) ⟨Nat.le_of_ble_eq_true rfl, Nat.le_of_ble_eq_true rfl⟩) (g_preS hKN hP hD [] rfl (by decide)) rfl rfl hl.1 rfl (lv_room (Nat.le_of_ble_eq_true rfl)) dX7_odds_33 ⟨Nat.le_of_ble_eq_true rfl, Nat.le_of_ble_eq_true rfl⟩) hP hD hS hA [] [0, 1] rfl rfl (by decide) (by decide) (fun r3206 u3207 H locs qu3207 hP hD hS => ?_)
      have hP : va_P (dC, dI) vwCl [(h1, .inr (7, [.ref (md 0), .ref (md 1), .int 0, .int 0, .int 0, .int (-1), .int 0, .int 0, .int 0, .int 0, .long 0, .ref (md 11), .ref (md 12), .ref (md 13), .ref (md 14), .ref (md 15), .ref (md 16), .ref (md 17), .ref (md 18), .ref (md 19), .ref (md 20), .ref (md 21), .ref (md 22), .ref (md 23), .ref (md 24), .ref (md 25), .ref (md 26), .ref (md 27), .ref (md 28), .int 0, .int 0, .int 0, .int 0, .int 0, .int 0, .int 0, .int 0, .int 0, .int 0, .int 0, .ref (md 40), .ref (md 41), .int 0, .int 0, .ref (md 44), .int 0, .int 0, .ref (md 47), .ref (md 48), .int 0, .ref (md 50), .ref (md 51), .ref (md 52), .ref (md 53), .ref (md 54), .int 0, .int 0, .ref (md 57), .ref (md 58)])), (md 16, .inl (cyI, 2, .inl (fun _ => 0)))] H := hP
      have hD : va_D A [(h1, .inr (7, [.ref (md 0), .ref (md 1), .int 0, .int 0, .int 0, .int (-1), .int 0, .int 0, .int 0, .int 0, .long 0, .ref (md 11), .ref (md 12), .ref (md 13), .ref (md 14), .ref (md 15), .ref (md 16), .ref (md 17), .ref (md 18), .ref (md 19), .ref (md 20), .ref (md 21), .ref (md 22), .ref (md 23), .ref (md 24), .ref (md 25), .ref (md 26), .ref (md 27), .ref (md 28), .int 0, .int 0, .int 0, .int 0, .int 0, .int 0, .int 0, .int 0, .int 0, .int 0, .int 0, .ref (md 40), .ref (md 41), .int 0, .int 0, .ref (md 44), .int 0, .int 0, .ref (md 47), .ref (md 48), .int 0, .ref (md 50), .ref (md 51), .ref (md 52), .ref (md 53), .ref (md 54), .int 0, .int 0, .ref (md 57), .ref (md 58)])), (md 16, .inl (cyI, 2, .inl (fun _ => 0)))] := hD
      refine tp_c (w := 1000000) qu3207 ?_
      refine lv_istore_n (lv' := [(3, .int 1000000), (0, .ref h1), (1, .int 3), (2, .int x2)]) hx hb dX7_odds_36 rfl hl (by decide) rfl (fun ls hl => ?_)
      refine lv_bipush (v := 100) hx hb dX7_odds_37 (by decide) ?_
      refine lv_iload_n hx hb dX7_odds_39 rfl (lv_at hl 2 rfl) ?_
      refine gf_i (wr := [(h1, .inr (7, [.ref (md 0), .ref (md 1), .int 0, .int 0, .int 0, .int (-1), .int 0, .int 0, .int 0, .int 0, .long 0, .ref (md 11), .ref (md 12), .ref (md 13), .ref (md 14), .ref (md 15), .ref (md 16), .ref (md 17), .ref (md 18), .ref (md 19), .ref (md 20), .ref (md 21), .ref (md 22), .ref (md 23), .ref (md 24), .ref (md 25), .ref (md 26), .ref (md 27), .ref (md 28), .int 0, .int 0, .int 0, .int 0, .int 0, .int 0, .int 0, .int 0, .int 0, .int 0, .int 0, .ref (md 40), .ref (md 41), .int 0, .int 0, .ref (md 44), .int 0, .int 0, .ref (md 47), .ref (md 48), .int 0, .ref (md 50), .ref (md 51), .ref (md 52), .ref (md 53), .ref (md 54), .int 0, .int 0, .ref (md 57), .ref (md 58)])), (md 16, .inl (cyI, 2, .inl (fun _ => 0)))]) (va_runS (As := [.int 100, .int 3]) (rest := []) hfix (k_X7_power_v4 l dC dI cyB cyI cyJ cyZ cyO _) (va_cwS 2 hts (gi_S (ow_m (k := 5) rfl) (ow_m (k := 6) rfl) (ow_m (k := 2) rfl) (sb_c (sb_r (sb_r (sb_r (sb_r (sb_r (sb_r (sb_r (sb_r (sb_r (sb_r (sb_r sb_l)))))))))))) gd_k_X7_power_v4) rfl rfl rfl (by decide +kernel) ⟨Nat.le_of_ble_eq_true rfl, Nat.le_of_ble_eq_true rfl⟩) (g_preS hKN hP hD [] rfl (by decide)) rfl rfl hl.1 rfl (lv_room (Nat.le_of_ble_eq_true rfl)) dX7_odds_40 ⟨Nat.le_of_ble_eq_true rfl, Nat.le_of_ble_eq_true rfl⟩) hP hD hS hA [] [0, 1] rfl rfl (by decide) (by decide) (fun r3212 u3213 H locs qu3213 hP hD hS => ?_)
      have hP : va_P (dC, dI) vwCl [(h1, .inr (7, [.ref (md 0), .ref (md 1), .int 0, .int 0, .int 0, .int (-1), .int 0, .int 0, .int 0, .int 0, .long 0, .ref (md 11), .ref (md 12), .ref (md 13), .ref (md 14), .ref (md 15), .ref (md 16), .ref (md 17), .ref (md 18), .ref (md 19), .ref (md 20), .ref (md 21), .ref (md 22), .ref (md 23), .ref (md 24), .ref (md 25), .ref (md 26), .ref (md 27), .ref (md 28), .int 0, .int 0, .int 0, .int 0, .int 0, .int 0, .int 0, .int 0, .int 0, .int 0, .int 0, .ref (md 40), .ref (md 41), .int 0, .int 0, .ref (md 44), .int 0, .int 0, .ref (md 47), .ref (md 48), .int 0, .ref (md 50), .ref (md 51), .ref (md 52), .ref (md 53), .ref (md 54), .int 0, .int 0, .ref (md 57), .ref (md 58)])), (md 16, .inl (cyI, 2, .inl (fun _ => 0)))] H := hP
      have hD : va_D A [(h1, .inr (7, [.ref (md 0), .ref (md 1), .int 0, .int 0, .int 0, .int (-1), .int 0, .int 0, .int 0, .int 0, .long 0, .ref (md 11), .ref (md 12), .ref (md 13), .ref (md 14), .ref (md 15), .ref (md 16), .ref (md 17), .ref (md 18), .ref (md 19), .ref (md 20), .ref (md 21), .ref (md 22), .ref (md 23), .ref (md 24), .ref (md 25), .ref (md 26), .ref (md 27), .ref (md 28), .int 0, .int 0, .int 0, .int 0, .int 0, .int 0, .int 0, .int 0, .int 0, .int 0, .int 0, .ref (md 40), .ref (md 41), .int 0, .int 0, .ref (md 44), .int 0, .int 0, .ref (md 47), .ref (md 48), .int 0, .ref (md 50), .ref (md 51), .ref (md 52), .ref (md 53), .ref (md 54), .int 0, .int 0, .ref (md 57), .ref (md 58)])), (md 16, .inl (cyI, 2, .inl (fun _ => 0)))] := hD
      refine tp_c (w := 1000000) qu3213 ?_
      refine lv_istore (lv' := [(4, .int 1000000), (3, .int 1000000), (0, .ref h1), (1, .int 3), (2, .int x2)]) hx hb dX7_odds_43 hl (by decide) rfl (fun ls hl => ?_)
      refine lv_iload_n hx hb dX7_odds_45 rfl (lv_at hl 4 rfl) ?_
      refine lv_if_ne (tgt := 53) hx hb dX7_odds_46 (by decide) (fun c3214 => ?_) (fun c3214 => ?_)
      · have c3214 := i_ne (a := x2.toInt) (b := 0) c3214 rfl (by decide)
        refine lv_iload hx hb dX7_odds_53 (lv_at hl 0 rfl) ?_
        refine lv_iload hx hb dX7_odds_55 (lv_at hl 0 rfl) ?_
        refine lv_iload_n hx hb dX7_odds_57 rfl (lv_at hl 1 rfl) ?_
        refine gf_i (wr := [(h1, .inr (7, [.ref (md 0), .ref (md 1), .int 0, .int 0, .int 0, .int (-1), .int 0, .int 0, .int 0, .int 0, .long 0, .ref (md 11), .ref (md 12), .ref (md 13), .ref (md 14), .ref (md 15), .ref (md 16), .ref (md 17), .ref (md 18), .ref (md 19), .ref (md 20), .ref (md 21), .ref (md 22), .ref (md 23), .ref (md 24), .ref (md 25), .ref (md 26), .ref (md 27), .ref (md 28), .int 0, .int 0, .int 0, .int 0, .int 0, .int 0, .int 0, .int 0, .int 0, .int 0, .int 0, .ref (md 40), .ref (md 41), .int 0, .int 0, .ref (md 44), .int 0, .int 0, .ref (md 47), .ref (md 48), .int 0, .ref (md 50), .ref (md 51), .ref (md 52), .ref (md 53), .ref (md 54), .int 0, .int 0, .ref (md 57), .ref (md 58)])), (md 16, .inl (cyI, 2, .inl (fun _ => 0)))]) (va_runS (As := [.int 1000000, .int 1000000]) (rest := [.int 1000000]) hfix (k_X7_divisor_v4 l dC dI cyB cyI cyJ cyZ cyO _) (va_cwS 2 hts (gi_S (ow_m (k := 7) rfl) (ow_m (k := 8) rfl) (ow_m (k := 2) rfl) (sb_c (sb_r (sb_r (sb_r (sb_r (sb_r (sb_r (sb_r (sb_r (sb_r (sb_r (sb_r (sb_r sb_l))))))))))))) gd_k_X7_divisor_v4) rfl rfl rfl (by decide +kernel) ⟨Nat.le_of_ble_eq_true rfl, Nat.le_of_ble_eq_true rfl⟩) (g_preS hKN hP hD [] rfl (by decide)) rfl rfl hl.1 rfl (lv_room (Nat.le_of_ble_eq_true rfl)) dX7_odds_58 ⟨Nat.le_of_ble_eq_true rfl, Nat.le_of_ble_eq_true rfl⟩) hP hD hS hA [] [0, 1] rfl rfl (by decide) (by decide) (fun r3217 u3218 H locs qu3218 hP hD hS => ?_)
        have hP : va_P (dC, dI) vwCl [(h1, .inr (7, [.ref (md 0), .ref (md 1), .int 0, .int 0, .int 0, .int (-1), .int 0, .int 0, .int 0, .int 0, .long 0, .ref (md 11), .ref (md 12), .ref (md 13), .ref (md 14), .ref (md 15), .ref (md 16), .ref (md 17), .ref (md 18), .ref (md 19), .ref (md 20), .ref (md 21), .ref (md 22), .ref (md 23), .ref (md 24), .ref (md 25), .ref (md 26), .ref (md 27), .ref (md 28), .int 0, .int 0, .int 0, .int 0, .int 0, .int 0, .int 0, .int 0, .int 0, .int 0, .int 0, .ref (md 40), .ref (md 41), .int 0, .int 0, .ref (md 44), .int 0, .int 0, .ref (md 47), .ref (md 48), .int 0, .ref (md 50), .ref (md 51), .ref (md 52), .ref (md 53), .ref (md 54), .int 0, .int 0, .ref (md 57), .ref (md 58)])), (md 16, .inl (cyI, 2, .inl (fun _ => 0)))] H := hP
        have hD : va_D A [(h1, .inr (7, [.ref (md 0), .ref (md 1), .int 0, .int 0, .int 0, .int (-1), .int 0, .int 0, .int 0, .int 0, .long 0, .ref (md 11), .ref (md 12), .ref (md 13), .ref (md 14), .ref (md 15), .ref (md 16), .ref (md 17), .ref (md 18), .ref (md 19), .ref (md 20), .ref (md 21), .ref (md 22), .ref (md 23), .ref (md 24), .ref (md 25), .ref (md 26), .ref (md 27), .ref (md 28), .int 0, .int 0, .int 0, .int 0, .int 0, .int 0, .int 0, .int 0, .int 0, .int 0, .int 0, .ref (md 40), .ref (md 41), .int 0, .int 0, .ref (md 44), .int 0, .int 0, .ref (md 47), .ref (md 48), .int 0, .ref (md 50), .ref (md 51), .ref (md 52), .ref (md 53), .ref (md 54), .int 0, .int 0, .ref (md 57), .ref (md 58)])), (md 16, .inl (cyI, 2, .inl (fun _ => 0)))] := hD
        refine tp_c (w := 1000000) qu3218 ?_
        refine lv_idiv hx hb dX7_odds_61 (by decide) ?_
        refine tp_c (w := 1) (by decide) ?_
        exact W.iret (v := 1) hx hb hr (fun t ht hW => ⟨⟨1, (), rfl, (by first | decide | (unfold sp_odds; (repeat' split) <;> first | rfl | omega)), cE.nil⟩, hS.F ht⟩) hS.2.2 dX7_odds_62
      · have c3214 := i_eq (a := x2.toInt) (b := 0) c3214 rfl (by decide)
        refine lv_iload_n hx hb dX7_odds_49 rfl (lv_at hl 1 rfl) ?_
        refine lv_goto (tgt := 55) hx hb dX7_odds_50 (by decide) ?_
        refine lv_iload hx hb dX7_odds_55 (lv_at hl 0 rfl) ?_
        refine lv_iload_n hx hb dX7_odds_57 rfl (lv_at hl 1 rfl) ?_
        refine gf_i (wr := [(h1, .inr (7, [.ref (md 0), .ref (md 1), .int 0, .int 0, .int 0, .int (-1), .int 0, .int 0, .int 0, .int 0, .long 0, .ref (md 11), .ref (md 12), .ref (md 13), .ref (md 14), .ref (md 15), .ref (md 16), .ref (md 17), .ref (md 18), .ref (md 19), .ref (md 20), .ref (md 21), .ref (md 22), .ref (md 23), .ref (md 24), .ref (md 25), .ref (md 26), .ref (md 27), .ref (md 28), .int 0, .int 0, .int 0, .int 0, .int 0, .int 0, .int 0, .int 0, .int 0, .int 0, .int 0, .ref (md 40), .ref (md 41), .int 0, .int 0, .ref (md 44), .int 0, .int 0, .ref (md 47), .ref (md 48), .int 0, .ref (md 50), .ref (md 51), .ref (md 52), .ref (md 53), .ref (md 54), .int 0, .int 0, .ref (md 57), .ref (md 58)])), (md 16, .inl (cyI, 2, .inl (fun _ => 0)))]) (va_runS (As := [.int 1000000, .int 1000000]) (rest := [.int 1000000]) hfix (k_X7_divisor_v4 l dC dI cyB cyI cyJ cyZ cyO _) (va_cwS 2 hts (gi_S (ow_m (k := 7) rfl) (ow_m (k := 8) rfl) (ow_m (k := 2) rfl) (sb_c (sb_r (sb_r (sb_r (sb_r (sb_r (sb_r (sb_r (sb_r (sb_r (sb_r (sb_r (sb_r sb_l))))))))))))) gd_k_X7_divisor_v4) rfl rfl rfl (by decide +kernel) ⟨Nat.le_of_ble_eq_true rfl, Nat.le_of_ble_eq_true rfl⟩) (g_preS hKN hP hD [] rfl (by decide)) rfl rfl hl.1 rfl (lv_room (Nat.le_of_ble_eq_true rfl)) dX7_odds_58 ⟨Nat.le_of_ble_eq_true rfl, Nat.le_of_ble_eq_true rfl⟩) hP hD hS hA [] [0, 1] rfl rfl (by decide) (by decide) (fun r3221 u3222 H locs qu3222 hP hD hS => ?_)
        have hP : va_P (dC, dI) vwCl [(h1, .inr (7, [.ref (md 0), .ref (md 1), .int 0, .int 0, .int 0, .int (-1), .int 0, .int 0, .int 0, .int 0, .long 0, .ref (md 11), .ref (md 12), .ref (md 13), .ref (md 14), .ref (md 15), .ref (md 16), .ref (md 17), .ref (md 18), .ref (md 19), .ref (md 20), .ref (md 21), .ref (md 22), .ref (md 23), .ref (md 24), .ref (md 25), .ref (md 26), .ref (md 27), .ref (md 28), .int 0, .int 0, .int 0, .int 0, .int 0, .int 0, .int 0, .int 0, .int 0, .int 0, .int 0, .ref (md 40), .ref (md 41), .int 0, .int 0, .ref (md 44), .int 0, .int 0, .ref (md 47), .ref (md 48), .int 0, .ref (md 50), .ref (md 51), .ref (md 52), .ref (md 53), .ref (md 54), .int 0, .int 0, .ref (md 57), .ref (md 58)])), (md 16, .inl (cyI, 2, .inl (fun _ => 0)))] H := hP
        have hD : va_D A [(h1, .inr (7, [.ref (md 0), .ref (md 1), .int 0, .int 0, .int 0, .int (-1), .int 0, .int 0, .int 0, .int 0, .long 0, .ref (md 11), .ref (md 12), .ref (md 13), .ref (md 14), .ref (md 15), .ref (md 16), .ref (md 17), .ref (md 18), .ref (md 19), .ref (md 20), .ref (md 21), .ref (md 22), .ref (md 23), .ref (md 24), .ref (md 25), .ref (md 26), .ref (md 27), .ref (md 28), .int 0, .int 0, .int 0, .int 0, .int 0, .int 0, .int 0, .int 0, .int 0, .int 0, .int 0, .ref (md 40), .ref (md 41), .int 0, .int 0, .ref (md 44), .int 0, .int 0, .ref (md 47), .ref (md 48), .int 0, .ref (md 50), .ref (md 51), .ref (md 52), .ref (md 53), .ref (md 54), .int 0, .int 0, .ref (md 57), .ref (md 58)])), (md 16, .inl (cyI, 2, .inl (fun _ => 0)))] := hD
        refine tp_c (w := 1000000) qu3222 ?_
        refine lv_idiv hx hb dX7_odds_61 (by decide) ?_
        refine tp_c (w := 1) (by decide) ?_
        exact W.iret (v := 1) hx hb hr (fun t ht hW => ⟨⟨1, (), rfl, (by first | decide | (unfold sp_odds; (repeat' split) <;> first | rfl | omega)), cE.nil⟩, hS.F ht⟩) hS.2.2 dX7_odds_62
  have c3184i := i_ne (b := 3) c3184 rfl (by decide)
  by_cases c3223 : x1 = 4
  · subst c3223
    have tc3223 : (4 : Int32).toInt = 4 := by decide
    have hl : lv_has ls 5 [(0, .ref h1), (1, .int 4), (2, .int x2)] := hl
    refine lv_iload_n hx hb dX7_odds_0 rfl (lv_at hl 1 rfl) ?_
    refine lv_iconst (v := 0) hx hb dX7_odds_1 (by decide) ?_
    refine lv_iconst (v := 4) hx hb dX7_odds_2 (by decide) ?_
    refine gf_i (wr := [(h1, .inr (7, [.ref (md 0), .ref (md 1), .int 0, .int 0, .int 0, .int (-1), .int 0, .int 0, .int 0, .int 0, .long 0, .ref (md 11), .ref (md 12), .ref (md 13), .ref (md 14), .ref (md 15), .ref (md 16), .ref (md 17), .ref (md 18), .ref (md 19), .ref (md 20), .ref (md 21), .ref (md 22), .ref (md 23), .ref (md 24), .ref (md 25), .ref (md 26), .ref (md 27), .ref (md 28), .int 0, .int 0, .int 0, .int 0, .int 0, .int 0, .int 0, .int 0, .int 0, .int 0, .int 0, .ref (md 40), .ref (md 41), .int 0, .int 0, .ref (md 44), .int 0, .int 0, .ref (md 47), .ref (md 48), .int 0, .ref (md 50), .ref (md 51), .ref (md 52), .ref (md 53), .ref (md 54), .int 0, .int 0, .ref (md 57), .ref (md 58)])), (md 16, .inl (cyI, 2, .inl (fun _ => 0)))]) (va_runS (As := [.int 4, .int 0, .int 4]) (rest := []) hfix (k_X7_isIn_v11 l dC dI cyB cyI cyJ cyZ cyO _) (va_cwS 3 hts (gi_S (ow_m (k := 0) rfl) (ow_m (k := 1) rfl) (ow_m (k := 2) rfl) (sb_c (sb_r (sb_r (sb_r (sb_r (sb_r (sb_r (sb_r (sb_r (sb_r (sb_r (sb_r (sb_r (sb_r sb_l)))))))))))))) gd_k_X7_isIn_v11) rfl rfl rfl (by decide +kernel) ⟨Nat.le_of_ble_eq_true rfl, Nat.le_of_ble_eq_true rfl⟩) (g_preS hKN hP hD [] rfl (by decide)) rfl rfl hl.1 rfl (lv_room (Nat.le_of_ble_eq_true rfl)) dX7_odds_3 ⟨Nat.le_of_ble_eq_true rfl, Nat.le_of_ble_eq_true rfl⟩) hP hD hS hA [] [0, 1] rfl rfl (by decide) (by decide) (fun r3226 u3227 H locs qu3227 hP hD hS => ?_)
    have hP : va_P (dC, dI) vwCl [(h1, .inr (7, [.ref (md 0), .ref (md 1), .int 0, .int 0, .int 0, .int (-1), .int 0, .int 0, .int 0, .int 0, .long 0, .ref (md 11), .ref (md 12), .ref (md 13), .ref (md 14), .ref (md 15), .ref (md 16), .ref (md 17), .ref (md 18), .ref (md 19), .ref (md 20), .ref (md 21), .ref (md 22), .ref (md 23), .ref (md 24), .ref (md 25), .ref (md 26), .ref (md 27), .ref (md 28), .int 0, .int 0, .int 0, .int 0, .int 0, .int 0, .int 0, .int 0, .int 0, .int 0, .int 0, .ref (md 40), .ref (md 41), .int 0, .int 0, .ref (md 44), .int 0, .int 0, .ref (md 47), .ref (md 48), .int 0, .ref (md 50), .ref (md 51), .ref (md 52), .ref (md 53), .ref (md 54), .int 0, .int 0, .ref (md 57), .ref (md 58)])), (md 16, .inl (cyI, 2, .inl (fun _ => 0)))] H := hP
    have hD : va_D A [(h1, .inr (7, [.ref (md 0), .ref (md 1), .int 0, .int 0, .int 0, .int (-1), .int 0, .int 0, .int 0, .int 0, .long 0, .ref (md 11), .ref (md 12), .ref (md 13), .ref (md 14), .ref (md 15), .ref (md 16), .ref (md 17), .ref (md 18), .ref (md 19), .ref (md 20), .ref (md 21), .ref (md 22), .ref (md 23), .ref (md 24), .ref (md 25), .ref (md 26), .ref (md 27), .ref (md 28), .int 0, .int 0, .int 0, .int 0, .int 0, .int 0, .int 0, .int 0, .int 0, .int 0, .int 0, .ref (md 40), .ref (md 41), .int 0, .int 0, .ref (md 44), .int 0, .int 0, .ref (md 47), .ref (md 48), .int 0, .ref (md 50), .ref (md 51), .ref (md 52), .ref (md 53), .ref (md 54), .int 0, .int 0, .ref (md 57), .ref (md 58)])), (md 16, .inl (cyI, 2, .inl (fun _ => 0)))] := hD
    refine tp_c (w := 1) qu3227 ?_
    refine lv_if_eq (tgt := 18) hx hb dX7_odds_6 (by decide) (fun c3228 => absurd c3228 (by decide)) (fun _ => ?_)
    refine lv_iload_n hx hb dX7_odds_9 rfl (lv_at hl 2 rfl) ?_
    refine lv_iconst (v := 0) hx hb dX7_odds_10 (by decide) ?_
    refine lv_iconst (v := 1) hx hb dX7_odds_11 (by decide) ?_
    refine gf_i (wr := [(h1, .inr (7, [.ref (md 0), .ref (md 1), .int 0, .int 0, .int 0, .int (-1), .int 0, .int 0, .int 0, .int 0, .long 0, .ref (md 11), .ref (md 12), .ref (md 13), .ref (md 14), .ref (md 15), .ref (md 16), .ref (md 17), .ref (md 18), .ref (md 19), .ref (md 20), .ref (md 21), .ref (md 22), .ref (md 23), .ref (md 24), .ref (md 25), .ref (md 26), .ref (md 27), .ref (md 28), .int 0, .int 0, .int 0, .int 0, .int 0, .int 0, .int 0, .int 0, .int 0, .int 0, .int 0, .ref (md 40), .ref (md 41), .int 0, .int 0, .ref (md 44), .int 0, .int 0, .ref (md 47), .ref (md 48), .int 0, .ref (md 50), .ref (md 51), .ref (md 52), .ref (md 53), .ref (md 54), .int 0, .int 0, .ref (md 57), .ref (md 58)])), (md 16, .inl (cyI, 2, .inl (fun _ => 0)))]) (va_runS (As := [.int x2, .int 0, .int 1]) (rest := []) hfix (k_X7_isIn_v4 l dC dI cyB cyI cyJ cyZ cyO x2 _) (va_cwS 3 hts (gi_S (ow_m (k := 0) rfl) (ow_m (k := 1) rfl) (ow_m (k := 2) rfl) (sb_c (sb_r sb_l)) gd_k_X7_isIn_v4) rfl rfl rfl (by decide +kernel) ⟨Nat.le_of_ble_eq_true rfl, Nat.le_of_ble_eq_true rfl⟩) (g_preS hKN hP hD [] rfl (by decide)) rfl rfl hl.1 rfl (lv_room (Nat.le_of_ble_eq_true rfl)) dX7_odds_12 ⟨Nat.le_of_ble_eq_true rfl, Nat.le_of_ble_eq_true rfl⟩) hP hD hS hA [] [0, 1] rfl rfl (by decide) (by decide) (fun r3231 u3232 H locs qu3232 hP hD hS => ?_)
    have hP : va_P (dC, dI) vwCl [(h1, .inr (7, [.ref (md 0), .ref (md 1), .int 0, .int 0, .int 0, .int (-1), .int 0, .int 0, .int 0, .int 0, .long 0, .ref (md 11), .ref (md 12), .ref (md 13), .ref (md 14), .ref (md 15), .ref (md 16), .ref (md 17), .ref (md 18), .ref (md 19), .ref (md 20), .ref (md 21), .ref (md 22), .ref (md 23), .ref (md 24), .ref (md 25), .ref (md 26), .ref (md 27), .ref (md 28), .int 0, .int 0, .int 0, .int 0, .int 0, .int 0, .int 0, .int 0, .int 0, .int 0, .int 0, .ref (md 40), .ref (md 41), .int 0, .int 0, .ref (md 44), .int 0, .int 0, .ref (md 47), .ref (md 48), .int 0, .ref (md 50), .ref (md 51), .ref (md 52), .ref (md 53), .ref (md 54), .int 0, .int 0, .ref (md 57), .ref (md 58)])), (md 16, .inl (cyI, 2, .inl (fun _ => 0)))] H := hP
    have hD : va_D A [(h1, .inr (7, [.ref (md 0), .ref (md 1), .int 0, .int 0, .int 0, .int (-1), .int 0, .int 0, .int 0, .int 0, .long 0, .ref (md 11), .ref (md 12), .ref (md 13), .ref (md 14), .ref (md 15), .ref (md 16), .ref (md 17), .ref (md 18), .ref (md 19), .ref (md 20), .ref (md 21), .ref (md 22), .ref (md 23), .ref (md 24), .ref (md 25), .ref (md 26), .ref (md 27), .ref (md 28), .int 0, .int 0, .int 0, .int 0, .int 0, .int 0, .int 0, .int 0, .int 0, .int 0, .int 0, .ref (md 40), .ref (md 41), .int 0, .int 0, .ref (md 44), .int 0, .int 0, .ref (md 47), .ref (md 48), .int 0, .ref (md 50), .ref (md 51), .ref (md 52), .ref (md 53), .ref (md 54), .int 0, .int 0, .ref (md 57), .ref (md 58)])), (md 16, .inl (cyI, 2, .inl (fun _ => 0)))] := hD
    rcases qu3232 with ⟨rfl, b3233⟩ | ⟨rfl, b3234, b3235⟩ | ⟨rfl, b3236, b3237⟩
    · skip
      refine lv_if_ne (tgt := 20) hx hb dX7_odds_15 (by decide) (fun c3238 => absurd (by decide) c3238) (fun _ => ?_)
      refine lv_iconst (v := (-1)) hx hb dX7_odds_18 (by decide) ?_
      exact W.iret (v := (-1)) hx hb hr (fun t ht hW => ⟨⟨(-1), (), rfl, (by first | decide | (unfold sp_odds; (repeat' split) <;> first | rfl | omega)), cE.nil⟩, hS.F ht⟩) hS.2.2 dX7_odds_19
    · skip
      refine lv_if_ne (tgt := 20) hx hb dX7_odds_15 (by decide) (fun c3239 => absurd (by decide) c3239) (fun _ => ?_)
      refine lv_iconst (v := (-1)) hx hb dX7_odds_18 (by decide) ?_
      exact W.iret (v := (-1)) hx hb hr (fun t ht hW => ⟨⟨(-1), (), rfl, (by first | decide | (unfold sp_odds; (repeat' split) <;> first | rfl | omega)), cE.nil⟩, hS.F ht⟩) hS.2.2 dX7_odds_19
    · skip
      refine lv_if_ne (tgt := 20) hx hb dX7_odds_15 (by decide) (fun _ => ?_) (fun c3240 => absurd c3240 (by decide))
      refine lv_bipush (v := 100) hx hb dX7_odds_20 (by decide) ?_
      refine lv_aload_n hx hb dX7_odds_22 rfl (lv_at hl 0 rfl) ?_
      refine va_get (D := (dC, dI)) (ci := 7) (v := .ref (md 16)) (C := RX7) (T := TX7) (N := 59) hx hb hts hi7 hown hK hP 0 rfl rfl 16 (by decide) (hts _ (ow_m (k := 3) rfl)) (fun _ h9 => h9) rfl dX7_odds_23 ?_
      refine lv_aload_n hx hb dX7_odds_26 rfl (lv_at hl 0 rfl) ?_
      refine va_get (D := (dC, dI)) (ci := 7) (v := .int 0) (C := RX7) (T := TX7) (N := 59) hx hb hts hi7 hown hK hP 0 rfl rfl 29 (by decide) (hts _ (ow_m (k := 4) rfl)) (fun _ h9 => h9) rfl dX7_odds_27 ?_
      refine va_iald hx hb hK hP 1 1 rfl rfl (vp_i (a := 0) (by decide) (by decide) (by decide)) dX7_odds_30 ?_
      refine tp_c (w := 0) (by rfl) ?_
      refine lv_isub hx hb dX7_odds_31 ?_
      refine tp_c (w := 100) (by decide) ?_
      refine lv_iload_n hx hb dX7_odds_32 rfl (lv_at hl 1 rfl) ?_
      refine gf_i (wr := [(h1, .inr (7, [.ref (md 0), .ref (md 1), .int 0, .int 0, .int 0, .int (-1), .int 0, .int 0, .int 0, .int 0, .long 0, .ref (md 11), .ref (md 12), .ref (md 13), .ref (md 14), .ref (md 15), .ref (md 16), .ref (md 17), .ref (md 18), .ref (md 19), .ref (md 20), .ref (md 21), .ref (md 22), .ref (md 23), .ref (md 24), .ref (md 25), .ref (md 26), .ref (md 27), .ref (md 28), .int 0, .int 0, .int 0, .int 0, .int 0, .int 0, .int 0, .int 0, .int 0, .int 0, .int 0, .ref (md 40), .ref (md 41), .int 0, .int 0, .ref (md 44), .int 0, .int 0, .ref (md 47), .ref (md 48), .int 0, .ref (md 50), .ref (md 51), .ref (md 52), .ref (md 53), .ref (md 54), .int 0, .int 0, .ref (md 57), .ref (md 58)])), (md 16, .inl (cyI, 2, .inl (fun _ => 0)))]) (va_runS (As := [.int 100, .int 4]) (rest := []) hfix (k_X7_power_v5 l dC dI cyB cyI cyJ cyZ cyO _) (va_cwS 2 hts (gi_S (ow_m (k := 5) rfl) (ow_m (k := 6) rfl) (ow_m (k := 2) rfl) (sb_c (sb_r (sb_r (sb_r (sb_r (sb_r (sb_r (sb_r (sb_r (sb_r (sb_r (sb_r (sb_r (sb_r (sb_r sb_l))))))))))))))) gd_k_X7_power_v5) rfl rfl rfl (by decide +kernel) ⟨Nat.le_of_ble_eq_true rfl, Nat.le_of_ble_eq_true rfl⟩) (g_preS hKN hP hD [] rfl (by decide)) rfl rfl hl.1 rfl (lv_room (Nat.le_of_ble_eq_true rfl)) dX7_odds_33 ⟨Nat.le_of_ble_eq_true rfl, Nat.le_of_ble_eq_true rfl⟩) hP hD hS hA [] [0, 1] rfl rfl (by decide) (by decide) (fun r3246 u3247 H locs qu3247 hP hD hS => ?_)
      have hP : va_P (dC, dI) vwCl [(h1, .inr (7, [.ref (md 0), .ref (md 1), .int 0, .int 0, .int 0, .int (-1), .int 0, .int 0, .int 0, .int 0, .long 0, .ref (md 11), .ref (md 12), .ref (md 13), .ref (md 14), .ref (md 15), .ref (md 16), .ref (md 17), .ref (md 18), .ref (md 19), .ref (md 20), .ref (md 21), .ref (md 22), .ref (md 23), .ref (md 24), .ref (md 25), .ref (md 26), .ref (md 27), .ref (md 28), .int 0, .int 0, .int 0, .int 0, .int 0, .int 0, .int 0, .int 0, .int 0, .int 0, .int 0, .ref (md 40), .ref (md 41), .int 0, .int 0, .ref (md 44), .int 0, .int 0, .ref (md 47), .ref (md 48), .int 0, .ref (md 50), .ref (md 51), .ref (md 52), .ref (md 53), .ref (md 54), .int 0, .int 0, .ref (md 57), .ref (md 58)])), (md 16, .inl (cyI, 2, .inl (fun _ => 0)))] H := hP
      have hD : va_D A [(h1, .inr (7, [.ref (md 0), .ref (md 1), .int 0, .int 0, .int 0, .int (-1), .int 0, .int 0, .int 0, .int 0, .long 0, .ref (md 11), .ref (md 12), .ref (md 13), .ref (md 14), .ref (md 15), .ref (md 16), .ref (md 17), .ref (md 18), .ref (md 19), .ref (md 20), .ref (md 21), .ref (md 22), .ref (md 23), .ref (md 24), .ref (md 25), .ref (md 26), .ref (md 27), .ref (md 28), .int 0, .int 0, .int 0, .int 0, .int 0, .int 0, .int 0, .int 0, .int 0, .int 0, .int 0, .ref (md 40), .ref (md 41), .int 0, .int 0, .ref (md 44), .int 0, .int 0, .ref (md 47), .ref (md 48), .int 0, .ref (md 50), .ref (md 51), .ref (md 52), .ref (md 53), .ref (md 54), .int 0, .int 0, .ref (md 57), .ref (md 58)])), (md 16, .inl (cyI, 2, .inl (fun _ => 0)))] := hD
      refine tp_c (w := 100000000) qu3247 ?_
      refine lv_istore_n (lv' := [(3, .int 100000000), (0, .ref h1), (1, .int 4), (2, .int x2)]) hx hb dX7_odds_36 rfl hl (by decide) rfl (fun ls hl => ?_)
      refine lv_bipush (v := 100) hx hb dX7_odds_37 (by decide) ?_
      refine lv_iload_n hx hb dX7_odds_39 rfl (lv_at hl 2 rfl) ?_
      refine gf_i (wr := [(h1, .inr (7, [.ref (md 0), .ref (md 1), .int 0, .int 0, .int 0, .int (-1), .int 0, .int 0, .int 0, .int 0, .long 0, .ref (md 11), .ref (md 12), .ref (md 13), .ref (md 14), .ref (md 15), .ref (md 16), .ref (md 17), .ref (md 18), .ref (md 19), .ref (md 20), .ref (md 21), .ref (md 22), .ref (md 23), .ref (md 24), .ref (md 25), .ref (md 26), .ref (md 27), .ref (md 28), .int 0, .int 0, .int 0, .int 0, .int 0, .int 0, .int 0, .int 0, .int 0, .int 0, .int 0, .ref (md 40), .ref (md 41), .int 0, .int 0, .ref (md 44), .int 0, .int 0, .ref (md 47), .ref (md 48), .int 0, .ref (md 50), .ref (md 51), .ref (md 52), .ref (md 53), .ref (md 54), .int 0, .int 0, .ref (md 57), .ref (md 58)])), (md 16, .inl (cyI, 2, .inl (fun _ => 0)))]) (va_runS (As := [.int 100, .int 4]) (rest := []) hfix (k_X7_power_v5 l dC dI cyB cyI cyJ cyZ cyO _) (va_cwS 2 hts (gi_S (ow_m (k := 5) rfl) (ow_m (k := 6) rfl) (ow_m (k := 2) rfl) (sb_c (sb_r (sb_r (sb_r (sb_r (sb_r (sb_r (sb_r (sb_r (sb_r (sb_r (sb_r (sb_r (sb_r (sb_r sb_l))))))))))))))) gd_k_X7_power_v5) rfl rfl rfl (by decide +kernel) ⟨Nat.le_of_ble_eq_true rfl, Nat.le_of_ble_eq_true rfl⟩) (g_preS hKN hP hD [] rfl (by decide)) rfl rfl hl.1 rfl (lv_room (Nat.le_of_ble_eq_true rfl)) dX7_odds_40 ⟨Nat.le_of_ble_eq_true rfl, Nat.le_of_ble_eq_true rfl⟩) hP hD hS hA [] [0, 1] rfl rfl (by decide) (by decide) (fun r3253 u3254 H locs qu3254 hP hD hS => ?_)
      have hP : va_P (dC, dI) vwCl [(h1, .inr (7, [.ref (md 0), .ref (md 1), .int 0, .int 0, .int 0, .int (-1), .int 0, .int 0, .int 0, .int 0, .long 0, .ref (md 11), .ref (md 12), .ref (md 13), .ref (md 14), .ref (md 15), .ref (md 16), .ref (md 17), .ref (md 18), .ref (md 19), .ref (md 20), .ref (md 21), .ref (md 22), .ref (md 23), .ref (md 24), .ref (md 25), .ref (md 26), .ref (md 27), .ref (md 28), .int 0, .int 0, .int 0, .int 0, .int 0, .int 0, .int 0, .int 0, .int 0, .int 0, .int 0, .ref (md 40), .ref (md 41), .int 0, .int 0, .ref (md 44), .int 0, .int 0, .ref (md 47), .ref (md 48), .int 0, .ref (md 50), .ref (md 51), .ref (md 52), .ref (md 53), .ref (md 54), .int 0, .int 0, .ref (md 57), .ref (md 58)])), (md 16, .inl (cyI, 2, .inl (fun _ => 0)))] H := hP
      have hD : va_D A [(h1, .inr (7, [.ref (md 0), .ref (md 1), .int 0, .int 0, .int 0, .int (-1), .int 0, .int 0, .int 0, .int 0, .long 0, .ref (md 11), .ref (md 12), .ref (md 13), .ref (md 14), .ref (md 15), .ref (md 16), .ref (md 17), .ref (md 18), .ref (md 19), .ref (md 20), .ref (md 21), .ref (md 22), .ref (md 23), .ref (md 24), .ref (md 25), .ref (md 26), .ref (md 27), .ref (md 28), .int 0, .int 0, .int 0, .int 0, .int 0, .int 0, .int 0, .int 0, .int 0, .int 0, .int 0, .ref (md 40), .ref (md 41), .int 0, .int 0, .ref (md 44), .int 0, .int 0, .ref (md 47), .ref (md 48), .int 0, .ref (md 50), .ref (md 51), .ref (md 52), .ref (md 53), .ref (md 54), .int 0, .int 0, .ref (md 57), .ref (md 58)])), (md 16, .inl (cyI, 2, .inl (fun _ => 0)))] := hD
      refine tp_c (w := 100000000) qu3254 ?_
      refine lv_istore (lv' := [(4, .int 100000000), (3, .int 100000000), (0, .ref h1), (1, .int 4), (2, .int x2)]) hx hb dX7_odds_43 hl (by decide) rfl (fun ls hl => ?_)
      refine lv_iload_n hx hb dX7_odds_45 rfl (lv_at hl 4 rfl) ?_
      refine lv_if_ne (tgt := 53) hx hb dX7_odds_46 (by decide) (fun c3255 => ?_) (fun c3255 => ?_)
      · have c3255 := i_ne (a := x2.toInt) (b := 0) c3255 rfl (by decide)
        refine lv_iload hx hb dX7_odds_53 (lv_at hl 0 rfl) ?_
        refine lv_iload hx hb dX7_odds_55 (lv_at hl 0 rfl) ?_
        refine lv_iload_n hx hb dX7_odds_57 rfl (lv_at hl 1 rfl) ?_
        refine gf_i (wr := [(h1, .inr (7, [.ref (md 0), .ref (md 1), .int 0, .int 0, .int 0, .int (-1), .int 0, .int 0, .int 0, .int 0, .long 0, .ref (md 11), .ref (md 12), .ref (md 13), .ref (md 14), .ref (md 15), .ref (md 16), .ref (md 17), .ref (md 18), .ref (md 19), .ref (md 20), .ref (md 21), .ref (md 22), .ref (md 23), .ref (md 24), .ref (md 25), .ref (md 26), .ref (md 27), .ref (md 28), .int 0, .int 0, .int 0, .int 0, .int 0, .int 0, .int 0, .int 0, .int 0, .int 0, .int 0, .ref (md 40), .ref (md 41), .int 0, .int 0, .ref (md 44), .int 0, .int 0, .ref (md 47), .ref (md 48), .int 0, .ref (md 50), .ref (md 51), .ref (md 52), .ref (md 53), .ref (md 54), .int 0, .int 0, .ref (md 57), .ref (md 58)])), (md 16, .inl (cyI, 2, .inl (fun _ => 0)))]) (va_runS (As := [.int 100000000, .int 100000000]) (rest := [.int 100000000]) hfix (k_X7_divisor_v5 l dC dI cyB cyI cyJ cyZ cyO _) (va_cwS 2 hts (gi_S (ow_m (k := 7) rfl) (ow_m (k := 8) rfl) (ow_m (k := 2) rfl) (sb_c (sb_r (sb_r (sb_r (sb_r (sb_r (sb_r (sb_r (sb_r (sb_r (sb_r (sb_r (sb_r (sb_r (sb_r (sb_r sb_l)))))))))))))))) gd_k_X7_divisor_v5) rfl rfl rfl (by decide +kernel) ⟨Nat.le_of_ble_eq_true rfl, Nat.le_of_ble_eq_true rfl⟩) (g_preS hKN hP hD [] rfl (by decide)) rfl rfl hl.1 rfl (lv_room (Nat.le_of_ble_eq_true rfl)) dX7_odds_58 ⟨Nat.le_of_ble_eq_true rfl, Nat.le_of_ble_eq_true rfl⟩) hP hD hS hA [] [0, 1] rfl rfl (by decide) (by decide) (fun r3258 u3259 H locs qu3259 hP hD hS => ?_)
        have hP : va_P (dC, dI) vwCl [(h1, .inr (7, [.ref (md 0), .ref (md 1), .int 0, .int 0, .int 0, .int (-1), .int 0, .int 0, .int 0, .int 0, .long 0, .ref (md 11), .ref (md 12), .ref (md 13), .ref (md 14), .ref (md 15), .ref (md 16), .ref (md 17), .ref (md 18), .ref (md 19), .ref (md 20), .ref (md 21), .ref (md 22), .ref (md 23), .ref (md 24), .ref (md 25), .ref (md 26), .ref (md 27), .ref (md 28), .int 0, .int 0, .int 0, .int 0, .int 0, .int 0, .int 0, .int 0, .int 0, .int 0, .int 0, .ref (md 40), .ref (md 41), .int 0, .int 0, .ref (md 44), .int 0, .int 0, .ref (md 47), .ref (md 48), .int 0, .ref (md 50), .ref (md 51), .ref (md 52), .ref (md 53), .ref (md 54), .int 0, .int 0, .ref (md 57), .ref (md 58)])), (md 16, .inl (cyI, 2, .inl (fun _ => 0)))] H := hP
        have hD : va_D A [(h1, .inr (7, [.ref (md 0), .ref (md 1), .int 0, .int 0, .int 0, .int (-1), .int 0, .int 0, .int 0, .int 0, .long 0, .ref (md 11), .ref (md 12), .ref (md 13), .ref (md 14), .ref (md 15), .ref (md 16), .ref (md 17), .ref (md 18), .ref (md 19), .ref (md 20), .ref (md 21), .ref (md 22), .ref (md 23), .ref (md 24), .ref (md 25), .ref (md 26), .ref (md 27), .ref (md 28), .int 0, .int 0, .int 0, .int 0, .int 0, .int 0, .int 0, .int 0, .int 0, .int 0, .int 0, .ref (md 40), .ref (md 41), .int 0, .int 0, .ref (md 44), .int 0, .int 0, .ref (md 47), .ref (md 48), .int 0, .ref (md 50), .ref (md 51), .ref (md 52), .ref (md 53), .ref (md 54), .int 0, .int 0, .ref (md 57), .ref (md 58)])), (md 16, .inl (cyI, 2, .inl (fun _ => 0)))] := hD
        refine tp_c (w := 100000000) qu3259 ?_
        refine lv_idiv hx hb dX7_odds_61 (by decide) ?_
        refine tp_c (w := 1) (by decide) ?_
        exact W.iret (v := 1) hx hb hr (fun t ht hW => ⟨⟨1, (), rfl, (by first | decide | (unfold sp_odds; (repeat' split) <;> first | rfl | omega)), cE.nil⟩, hS.F ht⟩) hS.2.2 dX7_odds_62
      · have c3255 := i_eq (a := x2.toInt) (b := 0) c3255 rfl (by decide)
        refine lv_iload_n hx hb dX7_odds_49 rfl (lv_at hl 1 rfl) ?_
        refine lv_goto (tgt := 55) hx hb dX7_odds_50 (by decide) ?_
        refine lv_iload hx hb dX7_odds_55 (lv_at hl 0 rfl) ?_
        refine lv_iload_n hx hb dX7_odds_57 rfl (lv_at hl 1 rfl) ?_
        refine gf_i (wr := [(h1, .inr (7, [.ref (md 0), .ref (md 1), .int 0, .int 0, .int 0, .int (-1), .int 0, .int 0, .int 0, .int 0, .long 0, .ref (md 11), .ref (md 12), .ref (md 13), .ref (md 14), .ref (md 15), .ref (md 16), .ref (md 17), .ref (md 18), .ref (md 19), .ref (md 20), .ref (md 21), .ref (md 22), .ref (md 23), .ref (md 24), .ref (md 25), .ref (md 26), .ref (md 27), .ref (md 28), .int 0, .int 0, .int 0, .int 0, .int 0, .int 0, .int 0, .int 0, .int 0, .int 0, .int 0, .ref (md 40), .ref (md 41), .int 0, .int 0, .ref (md 44), .int 0, .int 0, .ref (md 47), .ref (md 48), .int 0, .ref (md 50), .ref (md 51), .ref (md 52), .ref (md 53), .ref (md 54), .int 0, .int 0, .ref (md 57), .ref (md 58)])), (md 16, .inl (cyI, 2, .inl (fun _ => 0)))]) (va_runS (As := [.int 100000000, .int 100000000]) (rest := [.int 100000000]) hfix (k_X7_divisor_v5 l dC dI cyB cyI cyJ cyZ cyO _) (va_cwS 2 hts (gi_S (ow_m (k := 7) rfl) (ow_m (k := 8) rfl) (ow_m (k := 2) rfl) (sb_c (sb_r (sb_r (sb_r (sb_r (sb_r (sb_r (sb_r (sb_r (sb_r (sb_r (sb_r (sb_r (sb_r (sb_r (sb_r sb_l)))))))))))))))) gd_k_X7_divisor_v5) rfl rfl rfl (by decide +kernel) ⟨Nat.le_of_ble_eq_true rfl, Nat.le_of_ble_eq_true rfl⟩) (g_preS hKN hP hD [] rfl (by decide)) rfl rfl hl.1 rfl (lv_room (Nat.le_of_ble_eq_true rfl)) dX7_odds_58 ⟨Nat.le_of_ble_eq_true rfl, Nat.le_of_ble_eq_true rfl⟩) hP hD hS hA [] [0, 1] rfl rfl (by decide) (by decide) (fun r3262 u3263 H locs qu3263 hP hD hS => ?_)
        have hP : va_P (dC, dI) vwCl [(h1, .inr (7, [.ref (md 0), .ref (md 1), .int 0, .int 0, .int 0, .int (-1), .int 0, .int 0, .int 0, .int 0, .long 0, .ref (md 11), .ref (md 12), .ref (md 13), .ref (md 14), .ref (md 15), .ref (md 16), .ref (md 17), .ref (md 18), .ref (md 19), .ref (md 20), .ref (md 21), .ref (md 22), .ref (md 23), .ref (md 24), .ref (md 25), .ref (md 26), .ref (md 27), .ref (md 28), .int 0, .int 0, .int 0, .int 0, .int 0, .int 0, .int 0, .int 0, .int 0, .int 0, .int 0, .ref (md 40), .ref (md 41), .int 0, .int 0, .ref (md 44), .int 0, .int 0, .ref (md 47), .ref (md 48), .int 0, .ref (md 50), .ref (md 51), .ref (md 52), .ref (md 53), .ref (md 54), .int 0, .int 0, .ref (md 57), .ref (md 58)])), (md 16, .inl (cyI, 2, .inl (fun _ => 0)))] H := hP
        have hD : va_D A [(h1, .inr (7, [.ref (md 0), .ref (md 1), .int 0, .int 0, .int 0, .int (-1), .int 0, .int 0, .int 0, .int 0, .long 0, .ref (md 11), .ref (md 12), .ref (md 13), .ref (md 14), .ref (md 15), .ref (md 16), .ref (md 17), .ref (md 18), .ref (md 19), .ref (md 20), .ref (md 21), .ref (md 22), .ref (md 23), .ref (md 24), .ref (md 25), .ref (md 26), .ref (md 27), .ref (md 28), .int 0, .int 0, .int 0, .int 0, .int 0, .int 0, .int 0, .int 0, .int 0, .int 0, .int 0, .ref (md 40), .ref (md 41), .int 0, .int 0, .ref (md 44), .int 0, .int 0, .ref (md 47), .ref (md 48), .int 0, .ref (md 50), .ref (md 51), .ref (md 52), .ref (md 53), .ref (md 54), .int 0, .int 0, .ref (md 57), .ref (md 58)])), (md 16, .inl (cyI, 2, .inl (fun _ => 0)))] := hD
        refine tp_c (w := 100000000) qu3263 ?_
        refine lv_idiv hx hb dX7_odds_61 (by decide) ?_
        refine tp_c (w := 1) (by decide) ?_
        exact W.iret (v := 1) hx hb hr (fun t ht hW => ⟨⟨1, (), rfl, (by first | decide | (unfold sp_odds; (repeat' split) <;> first | rfl | omega)), cE.nil⟩, hS.F ht⟩) hS.2.2 dX7_odds_62
  have c3223i := i_ne (b := 4) c3223 rfl (by decide)
  refine lv_iload_n hx hb dX7_odds_0 rfl (lv_at hl 1 rfl) ?_
  refine lv_iconst (v := 0) hx hb dX7_odds_1 (by decide) ?_
  refine lv_iconst (v := 4) hx hb dX7_odds_2 (by decide) ?_
  refine gf_i (wr := [(h1, .inr (7, [.ref (md 0), .ref (md 1), .int 0, .int 0, .int 0, .int (-1), .int 0, .int 0, .int 0, .int 0, .long 0, .ref (md 11), .ref (md 12), .ref (md 13), .ref (md 14), .ref (md 15), .ref (md 16), .ref (md 17), .ref (md 18), .ref (md 19), .ref (md 20), .ref (md 21), .ref (md 22), .ref (md 23), .ref (md 24), .ref (md 25), .ref (md 26), .ref (md 27), .ref (md 28), .int 0, .int 0, .int 0, .int 0, .int 0, .int 0, .int 0, .int 0, .int 0, .int 0, .int 0, .ref (md 40), .ref (md 41), .int 0, .int 0, .ref (md 44), .int 0, .int 0, .ref (md 47), .ref (md 48), .int 0, .ref (md 50), .ref (md 51), .ref (md 52), .ref (md 53), .ref (md 54), .int 0, .int 0, .ref (md 57), .ref (md 58)])), (md 16, .inl (cyI, 2, .inl (fun _ => 0)))]) (va_runS (As := [.int x1, .int 0, .int 4]) (rest := []) hfix (k_X7_isIn_v12 l dC dI cyB cyI cyJ cyZ cyO x1 _) (va_cwS 3 hts (gi_S (ow_m (k := 0) rfl) (ow_m (k := 1) rfl) (ow_m (k := 2) rfl) (sb_c (sb_r (sb_r (sb_r (sb_r (sb_r (sb_r (sb_r (sb_r (sb_r (sb_r (sb_r (sb_r (sb_r (sb_r (sb_r (sb_r sb_l))))))))))))))))) gd_k_X7_isIn_v12) rfl rfl rfl (by decide +kernel) ⟨Nat.le_of_ble_eq_true rfl, Nat.le_of_ble_eq_true rfl⟩) (g_preS hKN hP hD [] rfl (by decide)) rfl rfl hl.1 rfl (lv_room (Nat.le_of_ble_eq_true rfl)) dX7_odds_3 ⟨Nat.le_of_ble_eq_true rfl, Nat.le_of_ble_eq_true rfl⟩) hP hD hS hA [] [0, 1] rfl rfl (by decide) (by decide) (fun r3266 u3267 H locs qu3267 hP hD hS => ?_)
  have hP : va_P (dC, dI) vwCl [(h1, .inr (7, [.ref (md 0), .ref (md 1), .int 0, .int 0, .int 0, .int (-1), .int 0, .int 0, .int 0, .int 0, .long 0, .ref (md 11), .ref (md 12), .ref (md 13), .ref (md 14), .ref (md 15), .ref (md 16), .ref (md 17), .ref (md 18), .ref (md 19), .ref (md 20), .ref (md 21), .ref (md 22), .ref (md 23), .ref (md 24), .ref (md 25), .ref (md 26), .ref (md 27), .ref (md 28), .int 0, .int 0, .int 0, .int 0, .int 0, .int 0, .int 0, .int 0, .int 0, .int 0, .int 0, .ref (md 40), .ref (md 41), .int 0, .int 0, .ref (md 44), .int 0, .int 0, .ref (md 47), .ref (md 48), .int 0, .ref (md 50), .ref (md 51), .ref (md 52), .ref (md 53), .ref (md 54), .int 0, .int 0, .ref (md 57), .ref (md 58)])), (md 16, .inl (cyI, 2, .inl (fun _ => 0)))] H := hP
  have hD : va_D A [(h1, .inr (7, [.ref (md 0), .ref (md 1), .int 0, .int 0, .int 0, .int (-1), .int 0, .int 0, .int 0, .int 0, .long 0, .ref (md 11), .ref (md 12), .ref (md 13), .ref (md 14), .ref (md 15), .ref (md 16), .ref (md 17), .ref (md 18), .ref (md 19), .ref (md 20), .ref (md 21), .ref (md 22), .ref (md 23), .ref (md 24), .ref (md 25), .ref (md 26), .ref (md 27), .ref (md 28), .int 0, .int 0, .int 0, .int 0, .int 0, .int 0, .int 0, .int 0, .int 0, .int 0, .int 0, .ref (md 40), .ref (md 41), .int 0, .int 0, .ref (md 44), .int 0, .int 0, .ref (md 47), .ref (md 48), .int 0, .ref (md 50), .ref (md 51), .ref (md 52), .ref (md 53), .ref (md 54), .int 0, .int 0, .ref (md 57), .ref (md 58)])), (md 16, .inl (cyI, 2, .inl (fun _ => 0)))] := hD
  rcases qu3267 with ⟨rfl, b3268⟩ | ⟨rfl, b3269, b3270⟩ | ⟨rfl, b3271, b3272⟩
  · skip
    refine lv_if_eq (tgt := 18) hx hb dX7_odds_6 (by decide) (fun _ => ?_) (fun c3273 => absurd (by decide) c3273)
    refine lv_iconst (v := (-1)) hx hb dX7_odds_18 (by decide) ?_
    exact W.iret (v := (-1)) hx hb hr (fun t ht hW => ⟨⟨(-1), (), rfl, (by first | decide | (unfold sp_odds; (repeat' split) <;> first | rfl | omega)), cE.nil⟩, hS.F ht⟩) hS.2.2 dX7_odds_19
  · skip
    refine lv_if_eq (tgt := 18) hx hb dX7_odds_6 (by decide) (fun _ => ?_) (fun c3274 => absurd (by decide) c3274)
    refine lv_iconst (v := (-1)) hx hb dX7_odds_18 (by decide) ?_
    exact W.iret (v := (-1)) hx hb hr (fun t ht hW => ⟨⟨(-1), (), rfl, (by first | decide | (unfold sp_odds; (repeat' split) <;> first | rfl | omega)), cE.nil⟩, hS.F ht⟩) hS.2.2 dX7_odds_19
  · exfalso; omega
def wo_c_M_lies : List Cond := [.fieldLink RX7 338 "ReplicaChainModel" "laid" "I", .methodLink RX7 316 yX7_isIn, .static yX7_isIn, .initialized RX7]
def wq_c_M_lies : List Cond := .code yX7_lies cX7_lies 2 (some .int) :: (wo_c_M_lies ++ (wq_k_X7_isIn ++ (wsX70 ++ [])))
theorem gd_c_M_lies : Gd wq_c_M_lies := gd_c (gd_a (gd_o (by decide +kernel)) (gd_a gd_k_X7_isIn (gd_a gd_u gd_0)))
abbrev wc_c_M_lies (cyB cyI cyJ cyZ cyO : ClassId) (h1 : Nat) (md : Nat → Nat) (x1 : Int32) : va_W := [(h1, .inr (7, [.ref (md 0), .ref (md 1), .int 0, .int 0, .int 0, .int (-1), .int 0, .int 0, .int 0, .int 0, .long 0, .ref (md 11), .ref (md 12), .ref (md 13), .ref (md 14), .ref (md 15), .ref (md 16), .ref (md 17), .ref (md 18), .ref (md 19), .ref (md 20), .ref (md 21), .ref (md 22), .ref (md 23), .ref (md 24), .ref (md 25), .ref (md 26), .ref (md 27), .ref (md 28), .int 0, .int 0, .int 0, .int 0, .int 0, .int 0, .int 0, .int 0, .int 0, .int 0, .int 0, .ref (md 40), .ref (md 41), .int 0, .int 0, .ref (md 44), .int 0, .int 0, .ref (md 47), .ref (md 48), .int 0, .ref (md 50), .ref (md 51), .ref (md 52), .ref (md 53), .ref (md 54), .int 0, .int 0, .ref (md 57), .ref (md 58)]))]
set_option maxHeartbeats 4000000 in
set_option maxRecDepth 100000 in
theorem c_M_lies (l : Launch) (dC : Nat → ClassId) (dI : Nat → Nat → Nat) (cyB cyI cyJ cyZ cyO : ClassId) (h1 : Nat) (md : Nat → Nat) (x1 : Int32) (sz : Nat) : Met l yX7_lies wq_c_M_lies ({ frames := 1, cells := 0, slots := 0, locals := 22 }) (va_Pc [.ref h1, .int x1] (cB (dC, dI) (kT cyB cyI cyJ cyZ cyO) (wc_c_M_lies cyB cyI cyJ cyZ cyO h1 md x1) sz)) (va_Qi (fun (r : Int32) (_ : Unit) => r = -2) (fun (u : Unit) t => cE (dC, dI) (va_A (wc_c_M_lies cyB cyI cyJ cyZ cyO h1 md x1) sz) ([]) t.heap) (va_A (wc_c_M_lies cyB cyI cyJ cyZ cyO h1 md x1) sz)) 0 0 (va_A (wc_c_M_lies cyB cyI cyJ cyZ cyO h1 md x1) sz) := by
  refine Met.ofW (cc := cX7_lies) (maxL := 2) (ret := (some .int)) (by decide) rfl ?_
  intro p e s m args below meth c s₁ B hml hv
  obtain ⟨rfl, hsz, hP, hKN, hD0⟩ := hv
  have hx := B.exec
  have hb := B.bytes
  have hr := B.returns
  have hts := atoms_spec (ws := wq_c_M_lies) B.pre
  have hown : s.vm.findClass RX7 = some m.cls := findClass_of_methodNamed B.named
  have hlocks := B.notSynchronized
  have hK := hKN.1
  have hfix : CallFix p m c cX7_lies 2 s [.ref h1, .int x1].toArray wq_c_M_lies RX7 := ⟨hx, hb, hml, hown, hts⟩
  have hi7 : ∀ w ∈ wsX70, w ∈ wq_c_M_lies := (sb_c (sb_r sb_l))
  subst hsz
  have hD := hD0.self (sz := s.heap.size)
  generalize hAe : va_A (wc_c_M_lies cyB cyI cyJ cyZ cyO h1 md x1) s.heap.size = A at hD ⊢
  have hA : ∀ q : Nat, s.heap.size ≤ q → A q := fun q h => by rw [← hAe]; exact Or.inr h
  have hS : va_S A s.heap s.heap [] := va_S.rf
  have hl := lv_entry ([.ref h1, .int x1]) (n := 2) (Nat.le_of_ble_eq_true rfl)
  rw [lg_entry_eq]
  generalize (lg_sl ([.ref h1, .int x1]) ++ List.replicate (2 - (lg_sl ([.ref h1, .int x1])).length) Slot.unset).toArray = ls at hl ⊢
  have hl : lv_has ls 2 [(0, .ref h1), (1, .int x1)] := hl
  refine lv_iload_n hx hb dX7_lies_0 rfl (lv_at hl 1 rfl) ?_
  refine lv_iconst (v := 0) hx hb dX7_lies_1 (by decide) ?_
  refine lv_aload_n hx hb dX7_lies_2 rfl (lv_at hl 0 rfl) ?_
  refine va_get (D := (dC, dI)) (ci := 7) (v := .int 0) (C := RX7) (T := TX7) (N := 59) hx hb hts hi7 hown hK hP 0 rfl rfl 49 (by decide) (hts _ (ow_m (k := 0) rfl)) (fun _ h9 => h9) rfl dX7_lies_3 ?_
  refine lv_iconst (v := 1) hx hb dX7_lies_6 (by decide) ?_
  refine lv_isub hx hb dX7_lies_7 ?_
  refine tp_c (w := (-1)) (by decide) ?_
  refine gf_i (wr := [(h1, .inr (7, [.ref (md 0), .ref (md 1), .int 0, .int 0, .int 0, .int (-1), .int 0, .int 0, .int 0, .int 0, .long 0, .ref (md 11), .ref (md 12), .ref (md 13), .ref (md 14), .ref (md 15), .ref (md 16), .ref (md 17), .ref (md 18), .ref (md 19), .ref (md 20), .ref (md 21), .ref (md 22), .ref (md 23), .ref (md 24), .ref (md 25), .ref (md 26), .ref (md 27), .ref (md 28), .int 0, .int 0, .int 0, .int 0, .int 0, .int 0, .int 0, .int 0, .int 0, .int 0, .int 0, .ref (md 40), .ref (md 41), .int 0, .int 0, .ref (md 44), .int 0, .int 0, .ref (md 47), .ref (md 48), .int 0, .ref (md 50), .ref (md 51), .ref (md 52), .ref (md 53), .ref (md 54), .int 0, .int 0, .ref (md 57), .ref (md 58)]))]) (va_runS (As := [.int x1, .int 0, .int (-1)]) (rest := []) hfix (k_X7_isIn l dC dI cyB cyI cyJ cyZ cyO x1 _) (va_cwS 3 hts (gi_S (ow_m (k := 1) rfl) (ow_m (k := 2) rfl) (ow_m (k := 3) rfl) (sb_c sb_l) gd_k_X7_isIn) rfl rfl rfl (by decide +kernel) ⟨Nat.le_of_ble_eq_true rfl, Nat.le_of_ble_eq_true rfl⟩) (g_preS hKN hP hD [] rfl (by decide)) rfl rfl hl.1 rfl (lv_room (Nat.le_of_ble_eq_true rfl)) dX7_lies_8 ⟨Nat.le_of_ble_eq_true rfl, Nat.le_of_ble_eq_true rfl⟩) hP hD hS hA [] [0] rfl rfl (by decide) (by decide) (fun r3286 u3287 H locs qu3287 hP hD hS => ?_)
  have hP : va_P (dC, dI) vwCl [(h1, .inr (7, [.ref (md 0), .ref (md 1), .int 0, .int 0, .int 0, .int (-1), .int 0, .int 0, .int 0, .int 0, .long 0, .ref (md 11), .ref (md 12), .ref (md 13), .ref (md 14), .ref (md 15), .ref (md 16), .ref (md 17), .ref (md 18), .ref (md 19), .ref (md 20), .ref (md 21), .ref (md 22), .ref (md 23), .ref (md 24), .ref (md 25), .ref (md 26), .ref (md 27), .ref (md 28), .int 0, .int 0, .int 0, .int 0, .int 0, .int 0, .int 0, .int 0, .int 0, .int 0, .int 0, .ref (md 40), .ref (md 41), .int 0, .int 0, .ref (md 44), .int 0, .int 0, .ref (md 47), .ref (md 48), .int 0, .ref (md 50), .ref (md 51), .ref (md 52), .ref (md 53), .ref (md 54), .int 0, .int 0, .ref (md 57), .ref (md 58)]))] H := hP
  have hD : va_D A [(h1, .inr (7, [.ref (md 0), .ref (md 1), .int 0, .int 0, .int 0, .int (-1), .int 0, .int 0, .int 0, .int 0, .long 0, .ref (md 11), .ref (md 12), .ref (md 13), .ref (md 14), .ref (md 15), .ref (md 16), .ref (md 17), .ref (md 18), .ref (md 19), .ref (md 20), .ref (md 21), .ref (md 22), .ref (md 23), .ref (md 24), .ref (md 25), .ref (md 26), .ref (md 27), .ref (md 28), .int 0, .int 0, .int 0, .int 0, .int 0, .int 0, .int 0, .int 0, .int 0, .int 0, .int 0, .ref (md 40), .ref (md 41), .int 0, .int 0, .ref (md 44), .int 0, .int 0, .ref (md 47), .ref (md 48), .int 0, .ref (md 50), .ref (md 51), .ref (md 52), .ref (md 53), .ref (md 54), .int 0, .int 0, .ref (md 57), .ref (md 58)]))] := hD
  rcases qu3287 with ⟨rfl, b3288⟩ | ⟨rfl, b3289, b3290⟩
  · skip
    refine lv_if_eq (tgt := 23) hx hb dX7_lies_11 (by decide) (fun _ => ?_) (fun c3291 => absurd (by decide) c3291)
    refine lv_bipush (v := (-2)) hx hb dX7_lies_23 (by decide) ?_
    exact W.iret (v := (-2)) hx hb hr (fun t ht hW => ⟨⟨(-2), (), rfl, rfl, cE.nil⟩, hS.F ht⟩) hS.2.2 dX7_lies_25
  · skip
    refine lv_if_eq (tgt := 23) hx hb dX7_lies_11 (by decide) (fun _ => ?_) (fun c3292 => absurd (by decide) c3292)
    refine lv_bipush (v := (-2)) hx hb dX7_lies_23 (by decide) ?_
    exact W.iret (v := (-2)) hx hb hr (fun t ht hW => ⟨⟨(-2), (), rfl, rfl, cE.nil⟩, hS.F ht⟩) hS.2.2 dX7_lies_25
def wo_c_M_seen : List Cond := [.methodLink RX7 316 yX7_isIn, .static yX7_isIn, .initialized RX7, .fieldLink RX7 335 "ReplicaChainModel" "seens" "I", .fieldLink RX7 24 "ReplicaChainModel" "members" "[I", .fieldLink RX7 214 "ReplicaChainModel" "bank" "I"]
def wq_c_M_seen : List Cond := .code yX7_seen cX7_seen 3 (some .int) :: (wo_c_M_seen ++ (wq_k_X7_isIn_v3 ++ (wsX70 ++ [])))
theorem gd_c_M_seen : Gd wq_c_M_seen := gd_c (gd_a (gd_o (by decide +kernel)) (gd_a gd_k_X7_isIn_v3 (gd_a gd_u gd_0)))
abbrev wc_c_M_seen (cyB cyI cyJ cyZ cyO : ClassId) (h1 : Nat) (md : Nat → Nat) (x1 : Int32) (x2 : Int32) : va_W := [(h1, .inr (7, [.ref (md 0), .ref (md 1), .int 0, .int 0, .int 0, .int (-1), .int 0, .int 0, .int 0, .int 0, .long 0, .ref (md 11), .ref (md 12), .ref (md 13), .ref (md 14), .ref (md 15), .ref (md 16), .ref (md 17), .ref (md 18), .ref (md 19), .ref (md 20), .ref (md 21), .ref (md 22), .ref (md 23), .ref (md 24), .ref (md 25), .ref (md 26), .ref (md 27), .ref (md 28), .int 0, .int 0, .int 0, .int 0, .int 0, .int 0, .int 0, .int 0, .int 0, .int 0, .int 0, .ref (md 40), .ref (md 41), .int 0, .int 0, .ref (md 44), .int 0, .int 0, .ref (md 47), .ref (md 48), .int 0, .ref (md 50), .ref (md 51), .ref (md 52), .ref (md 53), .ref (md 54), .int 0, .int 0, .ref (md 57), .ref (md 58)])), (md 12, .inl (cyI, 2, .inl (fun _ => 0)))]
set_option maxHeartbeats 4000000 in
set_option maxRecDepth 100000 in
theorem c_M_seen (l : Launch) (dC : Nat → ClassId) (dI : Nat → Nat → Nat) (cyB cyI cyJ cyZ cyO : ClassId) (h1 : Nat) (md : Nat → Nat) (x1 : Int32) (x2 : Int32) (sz : Nat) : Met l yX7_seen wq_c_M_seen ({ frames := 1, cells := 0, slots := 0, locals := 22 }) (va_Pc [.ref h1, .int x1, .int x2] (cB (dC, dI) (kT cyB cyI cyJ cyZ cyO) (wc_c_M_seen cyB cyI cyJ cyZ cyO h1 md x1 x2) sz)) (va_Qi (fun (r : Int32) (_ : Unit) => r = -1) (fun (u : Unit) t => cE (dC, dI) (va_A (wc_c_M_seen cyB cyI cyJ cyZ cyO h1 md x1 x2) sz) ([]) t.heap) (va_A (wc_c_M_seen cyB cyI cyJ cyZ cyO h1 md x1 x2) sz)) 0 0 (va_A (wc_c_M_seen cyB cyI cyJ cyZ cyO h1 md x1 x2) sz) := by
  refine Met.ofW (cc := cX7_seen) (maxL := 3) (ret := (some .int)) (by decide) rfl ?_
  intro p e s m args below meth c s₁ B hml hv
  obtain ⟨rfl, hsz, hP, hKN, hD0⟩ := hv
  have hx := B.exec
  have hb := B.bytes
  have hr := B.returns
  have hts := atoms_spec (ws := wq_c_M_seen) B.pre
  have hown : s.vm.findClass RX7 = some m.cls := findClass_of_methodNamed B.named
  have hlocks := B.notSynchronized
  have hK := hKN.1
  have hfix : CallFix p m c cX7_seen 3 s [.ref h1, .int x1, .int x2].toArray wq_c_M_seen RX7 := ⟨hx, hb, hml, hown, hts⟩
  have hi7 : ∀ w ∈ wsX70, w ∈ wq_c_M_seen := (sb_c (sb_r sb_l))
  subst hsz
  have hD := hD0.self (sz := s.heap.size)
  generalize hAe : va_A (wc_c_M_seen cyB cyI cyJ cyZ cyO h1 md x1 x2) s.heap.size = A at hD ⊢
  have hA : ∀ q : Nat, s.heap.size ≤ q → A q := fun q h => by rw [← hAe]; exact Or.inr h
  have hS : va_S A s.heap s.heap [] := va_S.rf
  have hl := lv_entry ([.ref h1, .int x1, .int x2]) (n := 3) (Nat.le_of_ble_eq_true rfl)
  rw [lg_entry_eq]
  generalize (lg_sl ([.ref h1, .int x1, .int x2]) ++ List.replicate (3 - (lg_sl ([.ref h1, .int x1, .int x2])).length) Slot.unset).toArray = ls at hl ⊢
  have hl : lv_has ls 3 [(0, .ref h1), (1, .int x1), (2, .int x2)] := hl
  refine lv_iload_n hx hb dX7_seen_0 rfl (lv_at hl 1 rfl) ?_
  refine lv_iconst (v := 0) hx hb dX7_seen_1 (by decide) ?_
  refine lv_bipush (v := 60) hx hb dX7_seen_2 (by decide) ?_
  refine gf_i (wr := [(h1, .inr (7, [.ref (md 0), .ref (md 1), .int 0, .int 0, .int 0, .int (-1), .int 0, .int 0, .int 0, .int 0, .long 0, .ref (md 11), .ref (md 12), .ref (md 13), .ref (md 14), .ref (md 15), .ref (md 16), .ref (md 17), .ref (md 18), .ref (md 19), .ref (md 20), .ref (md 21), .ref (md 22), .ref (md 23), .ref (md 24), .ref (md 25), .ref (md 26), .ref (md 27), .ref (md 28), .int 0, .int 0, .int 0, .int 0, .int 0, .int 0, .int 0, .int 0, .int 0, .int 0, .int 0, .ref (md 40), .ref (md 41), .int 0, .int 0, .ref (md 44), .int 0, .int 0, .ref (md 47), .ref (md 48), .int 0, .ref (md 50), .ref (md 51), .ref (md 52), .ref (md 53), .ref (md 54), .int 0, .int 0, .ref (md 57), .ref (md 58)])), (md 12, .inl (cyI, 2, .inl (fun _ => 0)))]) (va_runS (As := [.int x1, .int 0, .int 60]) (rest := []) hfix (k_X7_isIn_v3 l dC dI cyB cyI cyJ cyZ cyO x1 _) (va_cwS 3 hts (gi_S (ow_m (k := 0) rfl) (ow_m (k := 1) rfl) (ow_m (k := 2) rfl) (sb_c sb_l) gd_k_X7_isIn_v3) rfl rfl rfl (by decide +kernel) ⟨Nat.le_of_ble_eq_true rfl, Nat.le_of_ble_eq_true rfl⟩) (g_preS hKN hP hD [] rfl (by decide)) rfl rfl hl.1 rfl (lv_room (Nat.le_of_ble_eq_true rfl)) dX7_seen_4 ⟨Nat.le_of_ble_eq_true rfl, Nat.le_of_ble_eq_true rfl⟩) hP hD hS hA [] [0, 1] rfl rfl (by decide) (by decide) (fun r3309 u3310 H locs qu3310 hP hD hS => ?_)
  have hP : va_P (dC, dI) vwCl [(h1, .inr (7, [.ref (md 0), .ref (md 1), .int 0, .int 0, .int 0, .int (-1), .int 0, .int 0, .int 0, .int 0, .long 0, .ref (md 11), .ref (md 12), .ref (md 13), .ref (md 14), .ref (md 15), .ref (md 16), .ref (md 17), .ref (md 18), .ref (md 19), .ref (md 20), .ref (md 21), .ref (md 22), .ref (md 23), .ref (md 24), .ref (md 25), .ref (md 26), .ref (md 27), .ref (md 28), .int 0, .int 0, .int 0, .int 0, .int 0, .int 0, .int 0, .int 0, .int 0, .int 0, .int 0, .ref (md 40), .ref (md 41), .int 0, .int 0, .ref (md 44), .int 0, .int 0, .ref (md 47), .ref (md 48), .int 0, .ref (md 50), .ref (md 51), .ref (md 52), .ref (md 53), .ref (md 54), .int 0, .int 0, .ref (md 57), .ref (md 58)])), (md 12, .inl (cyI, 2, .inl (fun _ => 0)))] H := hP
  have hD : va_D A [(h1, .inr (7, [.ref (md 0), .ref (md 1), .int 0, .int 0, .int 0, .int (-1), .int 0, .int 0, .int 0, .int 0, .long 0, .ref (md 11), .ref (md 12), .ref (md 13), .ref (md 14), .ref (md 15), .ref (md 16), .ref (md 17), .ref (md 18), .ref (md 19), .ref (md 20), .ref (md 21), .ref (md 22), .ref (md 23), .ref (md 24), .ref (md 25), .ref (md 26), .ref (md 27), .ref (md 28), .int 0, .int 0, .int 0, .int 0, .int 0, .int 0, .int 0, .int 0, .int 0, .int 0, .int 0, .ref (md 40), .ref (md 41), .int 0, .int 0, .ref (md 44), .int 0, .int 0, .ref (md 47), .ref (md 48), .int 0, .ref (md 50), .ref (md 51), .ref (md 52), .ref (md 53), .ref (md 54), .int 0, .int 0, .ref (md 57), .ref (md 58)])), (md 12, .inl (cyI, 2, .inl (fun _ => 0)))] := hD
  rcases qu3310 with ⟨rfl, b3311⟩ | ⟨rfl, b3312, b3313⟩ | ⟨rfl, b3314, b3315⟩
  · skip
    refine lv_if_eq (tgt := 31) hx hb dX7_seen_7 (by decide) (fun _ => ?_) (fun c3316 => absurd (by decide) c3316)
    refine lv_iconst (v := (-1)) hx hb dX7_seen_31 (by decide) ?_
    exact W.iret (v := (-1)) hx hb hr (fun t ht hW => ⟨⟨(-1), (), rfl, rfl, cE.nil⟩, hS.F ht⟩) hS.2.2 dX7_seen_32
  · skip
    refine lv_if_eq (tgt := 31) hx hb dX7_seen_7 (by decide) (fun _ => ?_) (fun c3317 => absurd (by decide) c3317)
    refine lv_iconst (v := (-1)) hx hb dX7_seen_31 (by decide) ?_
    exact W.iret (v := (-1)) hx hb hr (fun t ht hW => ⟨⟨(-1), (), rfl, rfl, cE.nil⟩, hS.F ht⟩) hS.2.2 dX7_seen_32
  · skip
    refine lv_if_eq (tgt := 31) hx hb dX7_seen_7 (by decide) (fun c3318 => absurd c3318 (by decide)) (fun _ => ?_)
    refine lv_aload_n hx hb dX7_seen_10 rfl (lv_at hl 0 rfl) ?_
    refine va_get (D := (dC, dI)) (ci := 7) (v := .int 0) (C := RX7) (T := TX7) (N := 59) hx hb hts hi7 hown hK hP 0 rfl rfl 55 (by decide) (hts _ (ow_m (k := 3) rfl)) (fun _ h9 => h9) rfl dX7_seen_11 ?_
    refine lv_bipush (v := 30) hx hb dX7_seen_14 (by decide) ?_
    refine lv_icmp_eq (tgt := 31) hx hb dX7_seen_16 (by decide) (fun c3319 => absurd c3319 (by decide)) (fun _ => ?_)
    refine lv_aload_n hx hb dX7_seen_19 rfl (lv_at hl 0 rfl) ?_
    refine va_get (D := (dC, dI)) (ci := 7) (v := .ref (md 12)) (C := RX7) (T := TX7) (N := 59) hx hb hts hi7 hown hK hP 0 rfl rfl 12 (by decide) (hts _ (ow_m (k := 4) rfl)) (fun _ h9 => h9) rfl dX7_seen_20 ?_
    refine lv_aload_n hx hb dX7_seen_23 rfl (lv_at hl 0 rfl) ?_
    refine va_get (D := (dC, dI)) (ci := 7) (v := .int 0) (C := RX7) (T := TX7) (N := 59) hx hb hts hi7 hown hK hP 0 rfl rfl 29 (by decide) (hts _ (ow_m (k := 5) rfl)) (fun _ h9 => h9) rfl dX7_seen_24 ?_
    refine va_iald hx hb hK hP 1 1 rfl rfl (vp_i (a := 0) (by decide) (by decide) (by decide)) dX7_seen_27 ?_
    refine tp_c (w := 0) (by rfl) ?_
    refine lv_if_ne (tgt := 33) hx hb dX7_seen_28 (by decide) (fun c3320 => absurd (by decide) c3320) (fun _ => ?_)
    refine lv_iconst (v := (-1)) hx hb dX7_seen_31 (by decide) ?_
    exact W.iret (v := (-1)) hx hb hr (fun t ht hW => ⟨⟨(-1), (), rfl, rfl, cE.nil⟩, hS.F ht⟩) hS.2.2 dX7_seen_32
def wo_c_M_untell : List Cond := [.fieldLink RX7 335 "ReplicaChainModel" "seens" "I", .methodLink RX7 316 yX7_isIn, .static yX7_isIn, .initialized RX7]
def wq_c_M_untell : List Cond := .code yX7_untell cX7_untell 2 (some .boolean) :: (wo_c_M_untell ++ (wq_k_X7_isIn ++ (wsX70 ++ [])))
theorem gd_c_M_untell : Gd wq_c_M_untell := gd_c (gd_a (gd_o (by decide +kernel)) (gd_a gd_k_X7_isIn (gd_a gd_u gd_0)))
abbrev wc_c_M_untell (cyB cyI cyJ cyZ cyO : ClassId) (h1 : Nat) (md : Nat → Nat) (x1 : Int32) : va_W := [(h1, .inr (7, [.ref (md 0), .ref (md 1), .int 0, .int 0, .int 0, .int (-1), .int 0, .int 0, .int 0, .int 0, .long 0, .ref (md 11), .ref (md 12), .ref (md 13), .ref (md 14), .ref (md 15), .ref (md 16), .ref (md 17), .ref (md 18), .ref (md 19), .ref (md 20), .ref (md 21), .ref (md 22), .ref (md 23), .ref (md 24), .ref (md 25), .ref (md 26), .ref (md 27), .ref (md 28), .int 0, .int 0, .int 0, .int 0, .int 0, .int 0, .int 0, .int 0, .int 0, .int 0, .int 0, .ref (md 40), .ref (md 41), .int 0, .int 0, .ref (md 44), .int 0, .int 0, .ref (md 47), .ref (md 48), .int 0, .ref (md 50), .ref (md 51), .ref (md 52), .ref (md 53), .ref (md 54), .int 0, .int 0, .ref (md 57), .ref (md 58)]))]
set_option maxHeartbeats 4000000 in
set_option maxRecDepth 100000 in
theorem c_M_untell (l : Launch) (dC : Nat → ClassId) (dI : Nat → Nat → Nat) (cyB cyI cyJ cyZ cyO : ClassId) (h1 : Nat) (md : Nat → Nat) (x1 : Int32) (sz : Nat) : Met l yX7_untell wq_c_M_untell ({ frames := 1, cells := 0, slots := 0, locals := 22 }) (va_Pc [.ref h1, .int x1] (cB (dC, dI) (kT cyB cyI cyJ cyZ cyO) (wc_c_M_untell cyB cyI cyJ cyZ cyO h1 md x1) sz)) (va_Qi (fun (r : Int32) (_ : Unit) => r = 0) (fun (u : Unit) t => cE (dC, dI) (va_A (wc_c_M_untell cyB cyI cyJ cyZ cyO h1 md x1) sz) ([]) t.heap) (va_A (wc_c_M_untell cyB cyI cyJ cyZ cyO h1 md x1) sz)) 0 0 (va_A (wc_c_M_untell cyB cyI cyJ cyZ cyO h1 md x1) sz) := by
  refine Met.ofW (cc := cX7_untell) (maxL := 2) (ret := (some .boolean)) (by decide) rfl ?_
  intro p e s m args below meth c s₁ B hml hv
  obtain ⟨rfl, hsz, hP, hKN, hD0⟩ := hv
  have hx := B.exec
  have hb := B.bytes
  have hr := B.returns
  have hts := atoms_spec (ws := wq_c_M_untell) B.pre
  have hown : s.vm.findClass RX7 = some m.cls := findClass_of_methodNamed B.named
  have hlocks := B.notSynchronized
  have hK := hKN.1
  have hfix : CallFix p m c cX7_untell 2 s [.ref h1, .int x1].toArray wq_c_M_untell RX7 := ⟨hx, hb, hml, hown, hts⟩
  have hi7 : ∀ w ∈ wsX70, w ∈ wq_c_M_untell := (sb_c (sb_r sb_l))
  subst hsz
  have hD := hD0.self (sz := s.heap.size)
  generalize hAe : va_A (wc_c_M_untell cyB cyI cyJ cyZ cyO h1 md x1) s.heap.size = A at hD ⊢
  have hA : ∀ q : Nat, s.heap.size ≤ q → A q := fun q h => by rw [← hAe]; exact Or.inr h
  have hS : va_S A s.heap s.heap [] := va_S.rf
  have hl := lv_entry ([.ref h1, .int x1]) (n := 2) (Nat.le_of_ble_eq_true rfl)
  rw [lg_entry_eq]
  generalize (lg_sl ([.ref h1, .int x1]) ++ List.replicate (2 - (lg_sl ([.ref h1, .int x1])).length) Slot.unset).toArray = ls at hl ⊢
  have hl : lv_has ls 2 [(0, .ref h1), (1, .int x1)] := hl
  refine lv_iload_n hx hb dX7_untell_0 rfl (lv_at hl 1 rfl) ?_
  refine lv_iconst (v := 0) hx hb dX7_untell_1 (by decide) ?_
  refine lv_aload_n hx hb dX7_untell_2 rfl (lv_at hl 0 rfl) ?_
  refine va_get (D := (dC, dI)) (ci := 7) (v := .int 0) (C := RX7) (T := TX7) (N := 59) hx hb hts hi7 hown hK hP 0 rfl rfl 55 (by decide) (hts _ (ow_m (k := 0) rfl)) (fun _ h9 => h9) rfl dX7_untell_3 ?_
  refine lv_iconst (v := 1) hx hb dX7_untell_6 (by decide) ?_
  refine lv_isub hx hb dX7_untell_7 ?_
  refine tp_c (w := (-1)) (by decide) ?_
  refine gf_i (wr := [(h1, .inr (7, [.ref (md 0), .ref (md 1), .int 0, .int 0, .int 0, .int (-1), .int 0, .int 0, .int 0, .int 0, .long 0, .ref (md 11), .ref (md 12), .ref (md 13), .ref (md 14), .ref (md 15), .ref (md 16), .ref (md 17), .ref (md 18), .ref (md 19), .ref (md 20), .ref (md 21), .ref (md 22), .ref (md 23), .ref (md 24), .ref (md 25), .ref (md 26), .ref (md 27), .ref (md 28), .int 0, .int 0, .int 0, .int 0, .int 0, .int 0, .int 0, .int 0, .int 0, .int 0, .int 0, .ref (md 40), .ref (md 41), .int 0, .int 0, .ref (md 44), .int 0, .int 0, .ref (md 47), .ref (md 48), .int 0, .ref (md 50), .ref (md 51), .ref (md 52), .ref (md 53), .ref (md 54), .int 0, .int 0, .ref (md 57), .ref (md 58)]))]) (va_runS (As := [.int x1, .int 0, .int (-1)]) (rest := []) hfix (k_X7_isIn l dC dI cyB cyI cyJ cyZ cyO x1 _) (va_cwS 3 hts (gi_S (ow_m (k := 1) rfl) (ow_m (k := 2) rfl) (ow_m (k := 3) rfl) (sb_c sb_l) gd_k_X7_isIn) rfl rfl rfl (by decide +kernel) ⟨Nat.le_of_ble_eq_true rfl, Nat.le_of_ble_eq_true rfl⟩) (g_preS hKN hP hD [] rfl (by decide)) rfl rfl hl.1 rfl (lv_room (Nat.le_of_ble_eq_true rfl)) dX7_untell_8 ⟨Nat.le_of_ble_eq_true rfl, Nat.le_of_ble_eq_true rfl⟩) hP hD hS hA [] [0] rfl rfl (by decide) (by decide) (fun r3332 u3333 H locs qu3333 hP hD hS => ?_)
  have hP : va_P (dC, dI) vwCl [(h1, .inr (7, [.ref (md 0), .ref (md 1), .int 0, .int 0, .int 0, .int (-1), .int 0, .int 0, .int 0, .int 0, .long 0, .ref (md 11), .ref (md 12), .ref (md 13), .ref (md 14), .ref (md 15), .ref (md 16), .ref (md 17), .ref (md 18), .ref (md 19), .ref (md 20), .ref (md 21), .ref (md 22), .ref (md 23), .ref (md 24), .ref (md 25), .ref (md 26), .ref (md 27), .ref (md 28), .int 0, .int 0, .int 0, .int 0, .int 0, .int 0, .int 0, .int 0, .int 0, .int 0, .int 0, .ref (md 40), .ref (md 41), .int 0, .int 0, .ref (md 44), .int 0, .int 0, .ref (md 47), .ref (md 48), .int 0, .ref (md 50), .ref (md 51), .ref (md 52), .ref (md 53), .ref (md 54), .int 0, .int 0, .ref (md 57), .ref (md 58)]))] H := hP
  have hD : va_D A [(h1, .inr (7, [.ref (md 0), .ref (md 1), .int 0, .int 0, .int 0, .int (-1), .int 0, .int 0, .int 0, .int 0, .long 0, .ref (md 11), .ref (md 12), .ref (md 13), .ref (md 14), .ref (md 15), .ref (md 16), .ref (md 17), .ref (md 18), .ref (md 19), .ref (md 20), .ref (md 21), .ref (md 22), .ref (md 23), .ref (md 24), .ref (md 25), .ref (md 26), .ref (md 27), .ref (md 28), .int 0, .int 0, .int 0, .int 0, .int 0, .int 0, .int 0, .int 0, .int 0, .int 0, .int 0, .ref (md 40), .ref (md 41), .int 0, .int 0, .ref (md 44), .int 0, .int 0, .ref (md 47), .ref (md 48), .int 0, .ref (md 50), .ref (md 51), .ref (md 52), .ref (md 53), .ref (md 54), .int 0, .int 0, .ref (md 57), .ref (md 58)]))] := hD
  rcases qu3333 with ⟨rfl, b3334⟩ | ⟨rfl, b3335, b3336⟩
  · skip
    refine lv_if_eq (tgt := 23) hx hb dX7_untell_11 (by decide) (fun _ => ?_) (fun c3337 => absurd (by decide) c3337)
    refine lv_iconst (v := 0) hx hb dX7_untell_23 (by decide) ?_
    exact W.zret (v := 0) hx hb hr (by decide) (fun t ht hW => ⟨⟨0, (), rfl, rfl, cE.nil⟩, hS.F ht⟩) hS.2.2 dX7_untell_24
  · skip
    refine lv_if_eq (tgt := 23) hx hb dX7_untell_11 (by decide) (fun _ => ?_) (fun c3338 => absurd (by decide) c3338)
    refine lv_iconst (v := 0) hx hb dX7_untell_23 (by decide) ?_
    exact W.zret (v := 0) hx hb hr (by decide) (fun t ht hW => ⟨⟨0, (), rfl, rfl, cE.nil⟩, hS.F ht⟩) hS.2.2 dX7_untell_24
def wo_k_X7_isIn_v13 : List Cond := []
def wq_k_X7_isIn_v13 : List Cond := .code yX7_isIn cX7_isIn 3 (some .boolean) :: (wo_k_X7_isIn_v13 ++ [])
theorem gd_k_X7_isIn_v13 : Gd wq_k_X7_isIn_v13 := gd_c (gd_a (gd_o (by decide +kernel)) gd_0)
abbrev wc_k_X7_isIn_v13 (cyB cyI cyJ cyZ cyO : ClassId) (a0 : Int32) : va_W := []
set_option maxHeartbeats 4000000 in
set_option maxRecDepth 100000 in
theorem k_X7_isIn_v13 (l : Launch) (dC : Nat → ClassId) (dI : Nat → Nat → Nat) (cyB cyI cyJ cyZ cyO : ClassId) (a0 : Int32) (sz : Nat) : Met l yX7_isIn wq_k_X7_isIn_v13 ({ frames := 0, cells := 0, slots := 0, locals := 0 }) (va_Pc [.int a0, .int 0, .int 1000] (cB (dC, dI) (kT cyB cyI cyJ cyZ cyO) (wc_k_X7_isIn_v13 cyB cyI cyJ cyZ cyO a0) sz)) (va_Qi (fun (r : Int32) _ => (r = 0 ∧ a0.toInt < 0) ∨ (r = 0 ∧ 0 ≤ a0.toInt ∧ 1000 < a0.toInt) ∨ (r = 1 ∧ 0 ≤ a0.toInt ∧ a0.toInt ≤ 1000)) (fun (u : Unit) t => cE (dC, dI) (va_A (wc_k_X7_isIn_v13 cyB cyI cyJ cyZ cyO a0) sz) ([]) t.heap) (va_A (wc_k_X7_isIn_v13 cyB cyI cyJ cyZ cyO a0) sz)) 0 0 (va_A (wc_k_X7_isIn_v13 cyB cyI cyJ cyZ cyO a0) sz) := by
  refine Met.ofW (cc := cX7_isIn) (maxL := 3) (ret := (some .boolean)) (by decide) rfl ?_
  intro p e s m args below meth c s₁ B hml hv
  obtain ⟨rfl, hsz, hP, hKN, hD0⟩ := hv
  have hx := B.exec
  have hb := B.bytes
  have hr := B.returns
  have hts := atoms_spec (ws := wq_k_X7_isIn_v13) B.pre
  have hown : s.vm.findClass RX7 = some m.cls := findClass_of_methodNamed B.named
  have hlocks := B.notSynchronized
  have hK := hKN.1
  have hfix : CallFix p m c cX7_isIn 3 s [.int a0, .int 0, .int 1000].toArray wq_k_X7_isIn_v13 RX7 := ⟨hx, hb, hml, hown, hts⟩
  subst hsz
  have hD := hD0.self (sz := s.heap.size)
  generalize hAe : va_A (wc_k_X7_isIn_v13 cyB cyI cyJ cyZ cyO a0) s.heap.size = A at hD ⊢
  have hA : ∀ q : Nat, s.heap.size ≤ q → A q := fun q h => by rw [← hAe]; exact Or.inr h
  have hS : va_S A s.heap s.heap [] := va_S.rf
  have hl := lv_entry ([.int a0, .int 0, .int 1000]) (n := 3) (Nat.le_of_ble_eq_true rfl)
  rw [lg_entry_eq]
  generalize (lg_sl ([.int a0, .int 0, .int 1000]) ++ List.replicate (3 - (lg_sl ([.int a0, .int 0, .int 1000])).length) Slot.unset).toArray = ls at hl ⊢
  have hl : lv_has ls 3 [(0, .int a0), (1, .int 0), (2, .int 1000)] := hl
  refine lv_iload_n hx hb dX7_isIn_0 rfl (lv_at hl 0 rfl) ?_
  refine lv_iload_n hx hb dX7_isIn_1 rfl (lv_at hl 1 rfl) ?_
  refine lv_icmp_lt (tgt := 14) hx hb dX7_isIn_2 (by decide) (fun c3341 => ?_) (fun c3341 => ?_)
  · have c3341 := i_lt (a := a0.toInt) (b := 0) c3341 rfl (by decide)
    refine lv_iconst (v := 0) hx hb dX7_isIn_14 (by decide) ?_
    exact W.zret (v := 0) hx hb hr (by decide) (fun t ht hW => ⟨⟨0, (), rfl, (Or.inl ⟨rfl, c3341⟩), cE.of ht hP hD [] (by decide) rfl⟩, hS.F ht⟩) hS.2.2 dX7_isIn_15
  · have c3341 := i_nlt (a := a0.toInt) (b := 0) c3341 rfl (by decide)
    refine lv_iload_n hx hb dX7_isIn_5 rfl (lv_at hl 0 rfl) ?_
    refine lv_iload_n hx hb dX7_isIn_6 rfl (lv_at hl 2 rfl) ?_
    refine lv_icmp_gt (tgt := 14) hx hb dX7_isIn_7 (by decide) (fun c3342 => ?_) (fun c3342 => ?_)
    · have c3342 := i_lt (a := 1000) (b := a0.toInt) c3342 (by decide) rfl
      refine lv_iconst (v := 0) hx hb dX7_isIn_14 (by decide) ?_
      exact W.zret (v := 0) hx hb hr (by decide) (fun t ht hW => ⟨⟨0, (), rfl, (Or.inr (Or.inl ⟨rfl, c3341, c3342⟩)), cE.of ht hP hD [] (by decide) rfl⟩, hS.F ht⟩) hS.2.2 dX7_isIn_15
    · have c3342 := i_nlt (a := 1000) (b := a0.toInt) c3342 (by decide) rfl
      refine lv_iconst (v := 1) hx hb dX7_isIn_10 (by decide) ?_
      refine lv_goto (tgt := 15) hx hb dX7_isIn_11 (by decide) ?_
      exact W.zret (v := 1) hx hb hr (by decide) (fun t ht hW => ⟨⟨1, (), rfl, (Or.inr (Or.inr ⟨rfl, c3341, c3342⟩)), cE.of ht hP hD [] (by decide) rfl⟩, hS.F ht⟩) hS.2.2 dX7_isIn_15
def wo_c_M_later : List Cond := [.methodLink RX7 316 yX7_isIn, .static yX7_isIn, .initialized RX7, .fieldLink RX7 486 "ReplicaChainModel" "time" "I", .constant RX7 422 100000]
def wq_c_M_later : List Cond := .code yX7_later cX7_later 2 (some .int) :: (wo_c_M_later ++ (wq_k_X7_isIn_v13 ++ (wsX70 ++ [])))
theorem gd_c_M_later : Gd wq_c_M_later := gd_c (gd_a (gd_o (by decide +kernel)) (gd_a gd_k_X7_isIn_v13 (gd_a gd_u gd_0)))
abbrev wc_c_M_later (cyB cyI cyJ cyZ cyO : ClassId) (h1 : Nat) (md : Nat → Nat) (x1 : Int32) : va_W := [(h1, .inr (7, [.ref (md 0), .ref (md 1), .int 0, .int 0, .int 0, .int (-1), .int 0, .int 0, .int 0, .int 0, .long 0, .ref (md 11), .ref (md 12), .ref (md 13), .ref (md 14), .ref (md 15), .ref (md 16), .ref (md 17), .ref (md 18), .ref (md 19), .ref (md 20), .ref (md 21), .ref (md 22), .ref (md 23), .ref (md 24), .ref (md 25), .ref (md 26), .ref (md 27), .ref (md 28), .int 0, .int 0, .int 0, .int 0, .int 0, .int 0, .int 0, .int 0, .int 0, .int 0, .int 0, .ref (md 40), .ref (md 41), .int 0, .int 0, .ref (md 44), .int 0, .int 0, .ref (md 47), .ref (md 48), .int 0, .ref (md 50), .ref (md 51), .ref (md 52), .ref (md 53), .ref (md 54), .int 0, .int 0, .ref (md 57), .ref (md 58)]))]
set_option maxHeartbeats 4000000 in
set_option maxRecDepth 100000 in
theorem c_M_later (l : Launch) (dC : Nat → ClassId) (dI : Nat → Nat → Nat) (cyB cyI cyJ cyZ cyO : ClassId) (h1 : Nat) (md : Nat → Nat) (x1 : Int32) (sz : Nat) : Met l yX7_later wq_c_M_later ({ frames := 1, cells := 0, slots := 0, locals := 22 }) (va_Pc [.ref h1, .int x1] (cB (dC, dI) (kT cyB cyI cyJ cyZ cyO) (wc_c_M_later cyB cyI cyJ cyZ cyO h1 md x1) sz)) (va_Qi (fun (r : Int32) (_ : Unit) => r = sp_later x1) (fun (u : Unit) t => cE (dC, dI) (va_A (wc_c_M_later cyB cyI cyJ cyZ cyO h1 md x1) sz) ([]) t.heap) (va_A (wc_c_M_later cyB cyI cyJ cyZ cyO h1 md x1) sz)) 0 0 (va_A (wc_c_M_later cyB cyI cyJ cyZ cyO h1 md x1) sz) := by
  refine Met.ofW (cc := cX7_later) (maxL := 2) (ret := (some .int)) (by decide) rfl ?_
  intro p e s m args below meth c s₁ B hml hv
  obtain ⟨rfl, hsz, hP, hKN, hD0⟩ := hv
  have hx := B.exec
  have hb := B.bytes
  have hr := B.returns
  have hts := atoms_spec (ws := wq_c_M_later) B.pre
  have hown : s.vm.findClass RX7 = some m.cls := findClass_of_methodNamed B.named
  have hlocks := B.notSynchronized
  have hK := hKN.1
  have hfix : CallFix p m c cX7_later 2 s [.ref h1, .int x1].toArray wq_c_M_later RX7 := ⟨hx, hb, hml, hown, hts⟩
  have hi7 : ∀ w ∈ wsX70, w ∈ wq_c_M_later := (sb_c (sb_r sb_l))
  subst hsz
  have hD := hD0.self (sz := s.heap.size)
  generalize hAe : va_A (wc_c_M_later cyB cyI cyJ cyZ cyO h1 md x1) s.heap.size = A at hD ⊢
  have hA : ∀ q : Nat, s.heap.size ≤ q → A q := fun q h => by rw [← hAe]; exact Or.inr h
  have hS : va_S A s.heap s.heap [] := va_S.rf
  have hl := lv_entry ([.ref h1, .int x1]) (n := 2) (Nat.le_of_ble_eq_true rfl)
  rw [lg_entry_eq]
  generalize (lg_sl ([.ref h1, .int x1]) ++ List.replicate (2 - (lg_sl ([.ref h1, .int x1])).length) Slot.unset).toArray = ls at hl ⊢
  have hl : lv_has ls 2 [(0, .ref h1), (1, .int x1)] := hl
  refine lv_iload_n hx hb dX7_later_0 rfl (lv_at hl 1 rfl) ?_
  refine lv_iconst (v := 0) hx hb dX7_later_1 (by decide) ?_
  refine lv_sipush (v := 1000) hx hb dX7_later_2 (by decide) ?_
  refine gf_i (wr := [(h1, .inr (7, [.ref (md 0), .ref (md 1), .int 0, .int 0, .int 0, .int (-1), .int 0, .int 0, .int 0, .int 0, .long 0, .ref (md 11), .ref (md 12), .ref (md 13), .ref (md 14), .ref (md 15), .ref (md 16), .ref (md 17), .ref (md 18), .ref (md 19), .ref (md 20), .ref (md 21), .ref (md 22), .ref (md 23), .ref (md 24), .ref (md 25), .ref (md 26), .ref (md 27), .ref (md 28), .int 0, .int 0, .int 0, .int 0, .int 0, .int 0, .int 0, .int 0, .int 0, .int 0, .int 0, .ref (md 40), .ref (md 41), .int 0, .int 0, .ref (md 44), .int 0, .int 0, .ref (md 47), .ref (md 48), .int 0, .ref (md 50), .ref (md 51), .ref (md 52), .ref (md 53), .ref (md 54), .int 0, .int 0, .ref (md 57), .ref (md 58)]))]) (va_runS (As := [.int x1, .int 0, .int 1000]) (rest := []) hfix (k_X7_isIn_v13 l dC dI cyB cyI cyJ cyZ cyO x1 _) (va_cwS 3 hts (gi_S (ow_m (k := 0) rfl) (ow_m (k := 1) rfl) (ow_m (k := 2) rfl) (sb_c sb_l) gd_k_X7_isIn_v13) rfl rfl rfl (by decide +kernel) ⟨Nat.le_of_ble_eq_true rfl, Nat.le_of_ble_eq_true rfl⟩) (g_preS hKN hP hD [] rfl (by decide)) rfl rfl hl.1 rfl (lv_room (Nat.le_of_ble_eq_true rfl)) dX7_later_5 ⟨Nat.le_of_ble_eq_true rfl, Nat.le_of_ble_eq_true rfl⟩) hP hD hS hA [] [0] rfl rfl (by decide) (by decide) (fun r3356 u3357 H locs qu3357 hP hD hS => ?_)
  have hP : va_P (dC, dI) vwCl [(h1, .inr (7, [.ref (md 0), .ref (md 1), .int 0, .int 0, .int 0, .int (-1), .int 0, .int 0, .int 0, .int 0, .long 0, .ref (md 11), .ref (md 12), .ref (md 13), .ref (md 14), .ref (md 15), .ref (md 16), .ref (md 17), .ref (md 18), .ref (md 19), .ref (md 20), .ref (md 21), .ref (md 22), .ref (md 23), .ref (md 24), .ref (md 25), .ref (md 26), .ref (md 27), .ref (md 28), .int 0, .int 0, .int 0, .int 0, .int 0, .int 0, .int 0, .int 0, .int 0, .int 0, .int 0, .ref (md 40), .ref (md 41), .int 0, .int 0, .ref (md 44), .int 0, .int 0, .ref (md 47), .ref (md 48), .int 0, .ref (md 50), .ref (md 51), .ref (md 52), .ref (md 53), .ref (md 54), .int 0, .int 0, .ref (md 57), .ref (md 58)]))] H := hP
  have hD : va_D A [(h1, .inr (7, [.ref (md 0), .ref (md 1), .int 0, .int 0, .int 0, .int (-1), .int 0, .int 0, .int 0, .int 0, .long 0, .ref (md 11), .ref (md 12), .ref (md 13), .ref (md 14), .ref (md 15), .ref (md 16), .ref (md 17), .ref (md 18), .ref (md 19), .ref (md 20), .ref (md 21), .ref (md 22), .ref (md 23), .ref (md 24), .ref (md 25), .ref (md 26), .ref (md 27), .ref (md 28), .int 0, .int 0, .int 0, .int 0, .int 0, .int 0, .int 0, .int 0, .int 0, .int 0, .int 0, .ref (md 40), .ref (md 41), .int 0, .int 0, .ref (md 44), .int 0, .int 0, .ref (md 47), .ref (md 48), .int 0, .ref (md 50), .ref (md 51), .ref (md 52), .ref (md 53), .ref (md 54), .int 0, .int 0, .ref (md 57), .ref (md 58)]))] := hD
  rcases qu3357 with ⟨rfl, b3358⟩ | ⟨rfl, b3359, b3360⟩ | ⟨rfl, b3361, b3362⟩
  · skip
    refine lv_if_eq (tgt := 23) hx hb dX7_later_8 (by decide) (fun _ => ?_) (fun c3363 => absurd (by decide) c3363)
    refine lv_iconst (v := (-1)) hx hb dX7_later_23 (by decide) ?_
    exact W.iret (v := (-1)) hx hb hr (fun t ht hW => ⟨⟨(-1), (), rfl, (by first | decide | (unfold sp_later; (repeat' split) <;> first | rfl | omega)), cE.nil⟩, hS.F ht⟩) hS.2.2 dX7_later_24
  · skip
    refine lv_if_eq (tgt := 23) hx hb dX7_later_8 (by decide) (fun _ => ?_) (fun c3364 => absurd (by decide) c3364)
    refine lv_iconst (v := (-1)) hx hb dX7_later_23 (by decide) ?_
    exact W.iret (v := (-1)) hx hb hr (fun t ht hW => ⟨⟨(-1), (), rfl, (by first | decide | (unfold sp_later; (repeat' split) <;> first | rfl | omega)), cE.nil⟩, hS.F ht⟩) hS.2.2 dX7_later_24
  · skip
    refine lv_if_eq (tgt := 23) hx hb dX7_later_8 (by decide) (fun c3365 => absurd c3365 (by decide)) (fun _ => ?_)
    refine lv_aload_n hx hb dX7_later_11 rfl (lv_at hl 0 rfl) ?_
    refine va_get (D := (dC, dI)) (ci := 7) (v := .int 0) (C := RX7) (T := TX7) (N := 59) hx hb hts hi7 hown hK hP 0 rfl rfl 56 (by decide) (hts _ (ow_m (k := 3) rfl)) (fun _ h9 => h9) rfl dX7_later_12 ?_
    refine lv_iload_n hx hb dX7_later_15 rfl (lv_at hl 1 rfl) ?_
    refine lv_iadd hx hb dX7_later_16 ?_
    refine tp_c (w := x1) (Int32.zero_add  x1) ?_
    refine lv_ldcw (v := 100000) hx hb hown (hts _ (ow_m (k := 4) rfl)) dX7_later_17 ?_
    refine lv_icmp_le (tgt := 25) hx hb dX7_later_20 (by decide) (fun c3366 => ?_) (fun c3366 => ?_)
    · have c3366 := i_le (a := x1.toInt) (b := 100000) c3366 rfl (by decide)
      refine lv_aload_n hx hb dX7_later_25 rfl (lv_at hl 0 rfl) ?_
      refine lv_dup hx hb dX7_later_26 rfl ?_
      refine va_get (D := (dC, dI)) (ci := 7) (v := .int 0) (C := RX7) (T := TX7) (N := 59) hx hb hts hi7 hown hK hP 0 rfl rfl 56 (by decide) (hts _ (ow_m (k := 3) rfl)) (fun _ h9 => h9) rfl dX7_later_27 ?_
      refine lv_iload_n hx hb dX7_later_30 rfl (lv_at hl 1 rfl) ?_
      refine lv_iadd hx hb dX7_later_31 ?_
      refine tp_c (w := x1) (Int32.zero_add  x1) ?_
      refine va_put (D := (dC, dI)) (ci := 7) (v := .int x1) (ty := .int) (C := RX7) (T := TX7) (N := 59) hx hb hts hi7 tyX7 tyX7_ok nmX7 hown hK hP hD hS 0 rfl rfl 56 (by decide) (hts _ (ow_m (k := 3) rfl)) (fun _ h9 => h9) rfl (by decide +kernel) rfl rfl (Nat.le_of_ble_eq_true rfl) dX7_later_32 (fun H locs hP hD hS => ?_)
      have hP : va_P (dC, dI) vwCl [(h1, .inr (7, [.ref (md 0), .ref (md 1), .int 0, .int 0, .int 0, .int (-1), .int 0, .int 0, .int 0, .int 0, .long 0, .ref (md 11), .ref (md 12), .ref (md 13), .ref (md 14), .ref (md 15), .ref (md 16), .ref (md 17), .ref (md 18), .ref (md 19), .ref (md 20), .ref (md 21), .ref (md 22), .ref (md 23), .ref (md 24), .ref (md 25), .ref (md 26), .ref (md 27), .ref (md 28), .int 0, .int 0, .int 0, .int 0, .int 0, .int 0, .int 0, .int 0, .int 0, .int 0, .int 0, .ref (md 40), .ref (md 41), .int 0, .int 0, .ref (md 44), .int 0, .int 0, .ref (md 47), .ref (md 48), .int 0, .ref (md 50), .ref (md 51), .ref (md 52), .ref (md 53), .ref (md 54), .int 0, .int x1, .ref (md 57), .ref (md 58)]))] H := hP
      have hD : va_D A [(h1, .inr (7, [.ref (md 0), .ref (md 1), .int 0, .int 0, .int 0, .int (-1), .int 0, .int 0, .int 0, .int 0, .long 0, .ref (md 11), .ref (md 12), .ref (md 13), .ref (md 14), .ref (md 15), .ref (md 16), .ref (md 17), .ref (md 18), .ref (md 19), .ref (md 20), .ref (md 21), .ref (md 22), .ref (md 23), .ref (md 24), .ref (md 25), .ref (md 26), .ref (md 27), .ref (md 28), .int 0, .int 0, .int 0, .int 0, .int 0, .int 0, .int 0, .int 0, .int 0, .int 0, .int 0, .ref (md 40), .ref (md 41), .int 0, .int 0, .ref (md 44), .int 0, .int 0, .ref (md 47), .ref (md 48), .int 0, .ref (md 50), .ref (md 51), .ref (md 52), .ref (md 53), .ref (md 54), .int 0, .int x1, .ref (md 57), .ref (md 58)]))] := hD
      refine lv_aload_n hx hb dX7_later_35 rfl (lv_at hl 0 rfl) ?_
      refine va_get (D := (dC, dI)) (ci := 7) (v := .int x1) (C := RX7) (T := TX7) (N := 59) hx hb hts hi7 hown hK hP 0 rfl rfl 56 (by decide) (hts _ (ow_m (k := 3) rfl)) (fun _ h9 => h9) rfl dX7_later_36 ?_
      exact W.iret (v := x1) hx hb hr (fun t ht hW => ⟨⟨x1, (), rfl, (by first | decide | (unfold sp_later; (repeat' split) <;> first | rfl | omega)), cE.nil⟩, hS.F ht⟩) hS.2.2 dX7_later_39
    · have c3366 := i_nle (a := x1.toInt) (b := 100000) c3366 rfl (by decide)
      exfalso; omega
def wo_k_X7_cases : List Cond := [.fieldLink RX7 24 "ReplicaChainModel" "members" "[I", .fieldLink RX7 214 "ReplicaChainModel" "bank" "I"]
def wq_k_X7_cases : List Cond := .code yX7_cases cX7_cases 1 (some .int) :: (wo_k_X7_cases ++ (wsX70 ++ []))
theorem gd_k_X7_cases : Gd wq_k_X7_cases := gd_c (gd_a (gd_o (by decide +kernel)) (gd_a gd_u gd_0))
abbrev wc_k_X7_cases (cyB cyI cyJ cyZ cyO : ClassId) (md : Nat → Nat) (h1 : Nat) : va_W := [(md 12, .inl (cyI, 2, .inl (fun _ => 0))), (h1, .inr (7, [.ref (md 0), .ref (md 1), .int 0, .int 0, .int 0, .int (-1), .int 0, .int 0, .int 0, .int 0, .long 0, .ref (md 11), .ref (md 12), .ref (md 13), .ref (md 14), .ref (md 15), .ref (md 16), .ref (md 17), .ref (md 18), .ref (md 19), .ref (md 20), .ref (md 21), .ref (md 22), .ref (md 23), .ref (md 24), .ref (md 25), .ref (md 26), .ref (md 27), .ref (md 28), .int 0, .int 0, .int 0, .int 0, .int 0, .int 0, .int 0, .int 0, .int 0, .int 0, .int 0, .ref (md 40), .ref (md 41), .int 0, .int 0, .ref (md 44), .int 0, .int 0, .ref (md 47), .ref (md 48), .int 0, .ref (md 50), .ref (md 51), .ref (md 52), .ref (md 53), .ref (md 54), .int 0, .int 0, .ref (md 57), .ref (md 58)]))]
set_option maxHeartbeats 4000000 in
set_option maxRecDepth 100000 in
theorem k_X7_cases (l : Launch) (dC : Nat → ClassId) (dI : Nat → Nat → Nat) (cyB cyI cyJ cyZ cyO : ClassId) (md : Nat → Nat) (h1 : Nat) (sz : Nat) : Met l yX7_cases wq_k_X7_cases ({ frames := 0, cells := 0, slots := 0, locals := 0 }) (va_Pc [.ref h1] (cB (dC, dI) (kT cyB cyI cyJ cyZ cyO) (wc_k_X7_cases cyB cyI cyJ cyZ cyO md h1) sz)) (va_Qi (fun (r : Int32) _ => r = 0) (fun (u : Unit) t => cE (dC, dI) (va_A (wc_k_X7_cases cyB cyI cyJ cyZ cyO md h1) sz) ([(md 12, .inl (cyI, 2, .inl (fun _ => 0))), (h1, .inr (7, [.ref (md 0), .ref (md 1), .int 0, .int 0, .int 0, .int (-1), .int 0, .int 0, .int 0, .int 0, .long 0, .ref (md 11), .ref (md 12), .ref (md 13), .ref (md 14), .ref (md 15), .ref (md 16), .ref (md 17), .ref (md 18), .ref (md 19), .ref (md 20), .ref (md 21), .ref (md 22), .ref (md 23), .ref (md 24), .ref (md 25), .ref (md 26), .ref (md 27), .ref (md 28), .int 0, .int 0, .int 0, .int 0, .int 0, .int 0, .int 0, .int 0, .int 0, .int 0, .int 0, .ref (md 40), .ref (md 41), .int 0, .int 0, .ref (md 44), .int 0, .int 0, .ref (md 47), .ref (md 48), .int 0, .ref (md 50), .ref (md 51), .ref (md 52), .ref (md 53), .ref (md 54), .int 0, .int 0, .ref (md 57), .ref (md 58)]))]) t.heap) (va_A (wc_k_X7_cases cyB cyI cyJ cyZ cyO md h1) sz)) 0 0 (va_A (wc_k_X7_cases cyB cyI cyJ cyZ cyO md h1) sz) := by
  refine Met.ofW (cc := cX7_cases) (maxL := 1) (ret := (some .int)) (by decide) rfl ?_
  intro p e s m args below meth c s₁ B hml hv
  obtain ⟨rfl, hsz, hP, hKN, hD0⟩ := hv
  have hx := B.exec
  have hb := B.bytes
  have hr := B.returns
  have hts := atoms_spec (ws := wq_k_X7_cases) B.pre
  have hown : s.vm.findClass RX7 = some m.cls := findClass_of_methodNamed B.named
  have hlocks := B.notSynchronized
  have hK := hKN.1
  have hfix : CallFix p m c cX7_cases 1 s [.ref h1].toArray wq_k_X7_cases RX7 := ⟨hx, hb, hml, hown, hts⟩
  have hi7 : ∀ w ∈ wsX70, w ∈ wq_k_X7_cases := (sb_c sb_l)
  subst hsz
  have hD := hD0.self (sz := s.heap.size)
  generalize hAe : va_A (wc_k_X7_cases cyB cyI cyJ cyZ cyO md h1) s.heap.size = A at hD ⊢
  have hA : ∀ q : Nat, s.heap.size ≤ q → A q := fun q h => by rw [← hAe]; exact Or.inr h
  have hS : va_S A s.heap s.heap [] := va_S.rf
  have hl := lv_entry ([.ref h1]) (n := 1) (Nat.le_of_ble_eq_true rfl)
  rw [lg_entry_eq]
  generalize (lg_sl ([.ref h1]) ++ List.replicate (1 - (lg_sl ([.ref h1])).length) Slot.unset).toArray = ls at hl ⊢
  have hl : lv_has ls 1 [(0, .ref h1)] := hl
  refine lv_aload_n hx hb dX7_cases_0 rfl (lv_at hl 0 rfl) ?_
  refine va_get (D := (dC, dI)) (ci := 7) (v := .ref (md 12)) (C := RX7) (T := TX7) (N := 59) hx hb hts hi7 hown hK hP 1 rfl rfl 12 (by decide) (hts _ (ow_m (k := 0) rfl)) (fun _ h9 => h9) rfl dX7_cases_1 ?_
  refine lv_aload_n hx hb dX7_cases_4 rfl (lv_at hl 0 rfl) ?_
  refine va_get (D := (dC, dI)) (ci := 7) (v := .int 0) (C := RX7) (T := TX7) (N := 59) hx hb hts hi7 hown hK hP 1 rfl rfl 29 (by decide) (hts _ (ow_m (k := 1) rfl)) (fun _ h9 => h9) rfl dX7_cases_5 ?_
  refine va_iald hx hb hK hP 0 1 rfl rfl (vp_i (a := 0) (by decide) (by decide) (by decide)) dX7_cases_8 ?_
  refine tp_c (w := 0) (by rfl) ?_
  refine lv_iconst (v := 1) hx hb dX7_cases_9 (by decide) ?_
  refine lv_icmp_le (tgt := 27) hx hb dX7_cases_10 (by decide) (fun _ => ?_) (fun c3375 => absurd (by decide) c3375)
  refine lv_aload_n hx hb dX7_cases_27 rfl (lv_at hl 0 rfl) ?_
  refine va_get (D := (dC, dI)) (ci := 7) (v := .ref (md 12)) (C := RX7) (T := TX7) (N := 59) hx hb hts hi7 hown hK hP 1 rfl rfl 12 (by decide) (hts _ (ow_m (k := 0) rfl)) (fun _ h9 => h9) rfl dX7_cases_28 ?_
  refine lv_aload_n hx hb dX7_cases_31 rfl (lv_at hl 0 rfl) ?_
  refine va_get (D := (dC, dI)) (ci := 7) (v := .int 0) (C := RX7) (T := TX7) (N := 59) hx hb hts hi7 hown hK hP 1 rfl rfl 29 (by decide) (hts _ (ow_m (k := 1) rfl)) (fun _ h9 => h9) rfl dX7_cases_32 ?_
  refine va_iald hx hb hK hP 0 1 rfl rfl (vp_i (a := 0) (by decide) (by decide) (by decide)) dX7_cases_35 ?_
  refine tp_c (w := 0) (by rfl) ?_
  exact W.iret (v := 0) hx hb hr (fun t ht hW => ⟨⟨0, (), rfl, rfl, cE.of ht hP hD [0, 1] (by decide) rfl⟩, hS.F ht⟩) hS.2.2 dX7_cases_36
def wo_k_X7_bringBack_v3 : List Cond := [.fieldLink RX7 76 "ReplicaChainModel" "all" "[I", .fieldLink RX7 79 "ReplicaChainModel" "kept" "[I"]
def wq_k_X7_bringBack_v3 : List Cond := .code yX7_bringBack cX7_bringBack 2 none :: (wo_k_X7_bringBack_v3 ++ (wsX70 ++ []))
theorem gd_k_X7_bringBack_v3 : Gd wq_k_X7_bringBack_v3 := gd_c (gd_a (gd_o (by decide +kernel)) (gd_a gd_u gd_0))
abbrev wc_k_X7_bringBack_v3 (cyB cyI cyJ cyZ cyO : ClassId) (md : Nat → Nat) (g : Nat → Int32) (u3373 : Nat → Nat → Int32) (h1 : Nat) : va_W := [(md 40, .inl (cyI, 520, .inl g)), (md 41, .inl (cyI, 520, .inl (u3373 0))), (h1, .inr (7, [.ref (md 0), .ref (md 1), .int 0, .int 0, .int 0, .int (-1), .int 0, .int 0, .int 0, .int 0, .long 0, .ref (md 11), .ref (md 12), .ref (md 13), .ref (md 14), .ref (md 15), .ref (md 16), .ref (md 17), .ref (md 18), .ref (md 19), .ref (md 20), .ref (md 21), .ref (md 22), .ref (md 23), .ref (md 24), .ref (md 25), .ref (md 26), .ref (md 27), .ref (md 28), .int 0, .int 0, .int 0, .int 0, .int 0, .int 0, .int 0, .int 0, .int 0, .int 0, .int 0, .ref (md 40), .ref (md 41), .int 0, .int 0, .ref (md 44), .int 0, .int 0, .ref (md 47), .ref (md 48), .int 0, .ref (md 50), .ref (md 51), .ref (md 52), .ref (md 53), .ref (md 54), .int 0, .int 0, .ref (md 57), .ref (md 58)]))]
set_option maxHeartbeats 4000000 in
set_option maxRecDepth 100000 in
theorem k_X7_bringBack_v3 (l : Launch) (dC : Nat → ClassId) (dI : Nat → Nat → Nat) (cyB cyI cyJ cyZ cyO : ClassId) (md : Nat → Nat) (g : Nat → Int32) (u3373 : Nat → Nat → Int32) (h1 : Nat) (sz : Nat) (hg : AllZ g) : Met l yX7_bringBack wq_k_X7_bringBack_v3 ({ frames := 0, cells := 0, slots := 0, locals := 0 }) (va_Pc [.ref h1] (cB (dC, dI) (kT cyB cyI cyJ cyZ cyO) (wc_k_X7_bringBack_v3 cyB cyI cyJ cyZ cyO md g u3373 h1) sz)) (va_Qv (fun _ => True) (fun (u : Nat → Nat → Int32) t => cE (dC, dI) (va_A (wc_k_X7_bringBack_v3 cyB cyI cyJ cyZ cyO md g u3373 h1) sz) ([(md 40, .inl (cyI, 520, .inl (u 0))), (md 41, .inl (cyI, 520, .inl (u3373 0))), (h1, .inr (7, [.ref (md 0), .ref (md 1), .int 0, .int 0, .int 0, .int (-1), .int 0, .int 0, .int 0, .int 0, .long 0, .ref (md 11), .ref (md 12), .ref (md 13), .ref (md 14), .ref (md 15), .ref (md 16), .ref (md 17), .ref (md 18), .ref (md 19), .ref (md 20), .ref (md 21), .ref (md 22), .ref (md 23), .ref (md 24), .ref (md 25), .ref (md 26), .ref (md 27), .ref (md 28), .int 0, .int 0, .int 0, .int 0, .int 0, .int 0, .int 0, .int 0, .int 0, .int 0, .int 0, .ref (md 40), .ref (md 41), .int 0, .int 0, .ref (md 44), .int 0, .int 0, .ref (md 47), .ref (md 48), .int 0, .ref (md 50), .ref (md 51), .ref (md 52), .ref (md 53), .ref (md 54), .int 0, .int 0, .ref (md 57), .ref (md 58)]))]) t.heap) (va_A (wc_k_X7_bringBack_v3 cyB cyI cyJ cyZ cyO md g u3373 h1) sz)) 0 0 (va_A (wc_k_X7_bringBack_v3 cyB cyI cyJ cyZ cyO md g u3373 h1) sz) := by
  refine Met.ofW (cc := cX7_bringBack) (maxL := 2) (ret := none) (by decide) rfl ?_
  intro p e s m args below meth c s₁ B hml hv
  obtain ⟨rfl, hsz, hP, hKN, hD0⟩ := hv
  have hx := B.exec
  have hb := B.bytes
  have hr := B.returns
  have hts := atoms_spec (ws := wq_k_X7_bringBack_v3) B.pre
  have hown : s.vm.findClass RX7 = some m.cls := findClass_of_methodNamed B.named
  have hlocks := B.notSynchronized
  have hK := hKN.1
  have hfix : CallFix p m c cX7_bringBack 2 s [.ref h1].toArray wq_k_X7_bringBack_v3 RX7 := ⟨hx, hb, hml, hown, hts⟩
  have hi7 : ∀ w ∈ wsX70, w ∈ wq_k_X7_bringBack_v3 := (sb_c sb_l)
  subst hsz
  have hD := hD0.self (sz := s.heap.size)
  generalize hAe : va_A (wc_k_X7_bringBack_v3 cyB cyI cyJ cyZ cyO md g u3373 h1) s.heap.size = A at hD ⊢
  have hA : ∀ q : Nat, s.heap.size ≤ q → A q := fun q h => by rw [← hAe]; exact Or.inr h
  have hS : va_S A s.heap s.heap [] := va_S.rf
  have hl := lv_entry ([.ref h1]) (n := 2) (Nat.le_of_ble_eq_true rfl)
  rw [lg_entry_eq]
  generalize (lg_sl ([.ref h1]) ++ List.replicate (2 - (lg_sl ([.ref h1])).length) Slot.unset).toArray = ls at hl ⊢
  have hl : lv_has ls 2 [(0, .ref h1)] := hl
  refine lv_iconst (v := 0) hx hb dX7_bringBack_0 (by decide) ?_
  refine lv_istore_n (lv' := [(1, .int 0), (0, .ref h1)]) hx hb dX7_bringBack_1 rfl hl (by decide) rfl (fun ls hl => ?_)
  refine w_gen (fun H locs ls hP hS hl => ?_) hP hS hl
  obtain ⟨k, hk, hl2⟩ : ∃ k : Nat, k + 520 = 520 ∧ lv_has ls 2 [(1, .int (nI k)), (0, .ref h1)] := ⟨0, Nat.zero_add _, hl⟩
  obtain ⟨n, hkn⟩ : ∃ n : Nat, k + n = 520 := ⟨520, hk⟩
  obtain ⟨f3384, hP2, hD2⟩ : ∃ (f3384 : Nat → Int32), va_P (dC, dI) vwCl [(md 40, .inl (cyI, 520, .inl f3384)), (md 41, .inl (cyI, 520, .inl (u3373 0))), (h1, .inr (7, [.ref (md 0), .ref (md 1), .int 0, .int 0, .int 0, .int (-1), .int 0, .int 0, .int 0, .int 0, .long 0, .ref (md 11), .ref (md 12), .ref (md 13), .ref (md 14), .ref (md 15), .ref (md 16), .ref (md 17), .ref (md 18), .ref (md 19), .ref (md 20), .ref (md 21), .ref (md 22), .ref (md 23), .ref (md 24), .ref (md 25), .ref (md 26), .ref (md 27), .ref (md 28), .int 0, .int 0, .int 0, .int 0, .int 0, .int 0, .int 0, .int 0, .int 0, .int 0, .int 0, .ref (md 40), .ref (md 41), .int 0, .int 0, .ref (md 44), .int 0, .int 0, .ref (md 47), .ref (md 48), .int 0, .ref (md 50), .ref (md 51), .ref (md 52), .ref (md 53), .ref (md 54), .int 0, .int 0, .ref (md 57), .ref (md 58)]))] H ∧ va_D A [(md 40, .inl (cyI, 520, .inl f3384)), (md 41, .inl (cyI, 520, .inl (u3373 0))), (h1, .inr (7, [.ref (md 0), .ref (md 1), .int 0, .int 0, .int 0, .int (-1), .int 0, .int 0, .int 0, .int 0, .long 0, .ref (md 11), .ref (md 12), .ref (md 13), .ref (md 14), .ref (md 15), .ref (md 16), .ref (md 17), .ref (md 18), .ref (md 19), .ref (md 20), .ref (md 21), .ref (md 22), .ref (md 23), .ref (md 24), .ref (md 25), .ref (md 26), .ref (md 27), .ref (md 28), .int 0, .int 0, .int 0, .int 0, .int 0, .int 0, .int 0, .int 0, .int 0, .int 0, .int 0, .ref (md 40), .ref (md 41), .int 0, .int 0, .ref (md 44), .int 0, .int 0, .ref (md 47), .ref (md 48), .int 0, .ref (md 50), .ref (md 51), .ref (md 52), .ref (md 53), .ref (md 54), .int 0, .int 0, .ref (md 57), .ref (md 58)]))] := ⟨_, hP, hD⟩
  clear hk hP hl
  have hP := hP2
  have hD := hD2
  have hl := hl2
  clear hP2 hD2 hl2
  induction n generalizing k f3384 H locs ls with
  | zero =>
    obtain rfl : k = 520 := by omega
    refine lv_iload_n hx hb dX7_bringBack_2 rfl (lv_at hl 0 rfl) ?_
    refine lv_sipush (v := 520) hx hb dX7_bringBack_3 (by decide) ?_
    refine lv_icmp_ge (tgt := 27) hx hb dX7_bringBack_6 (by decide) (fun _ => ?_) (fun c3385 => absurd (by decide) c3385)
    exact W.vret hx hb hr (fun t ht hW => ⟨⟨(fun _ => f3384), rfl, trivial, cE.of ht hP hD [0, 1, 2] (by decide) rfl⟩, hS.F ht⟩) hS.2.2 dX7_bringBack_27
  | succ n ih =>
    refine lv_iload_n hx hb dX7_bringBack_2 rfl (lv_at hl 0 rfl) ?_
    refine lv_sipush (v := 520) hx hb dX7_bringBack_3 (by decide) ?_
    refine lv_icmp_ge (tgt := 27) hx hb dX7_bringBack_6 (by decide) (fun c3386 => ?_) (fun c3386 => ?_)
    · have c3386 := i_le (a := 520) (b := (k : Int)) c3386 (by decide) (nI_toInt (by omega))
      exfalso; omega
    · have c3386 := i_nle (a := 520) (b := (k : Int)) c3386 (by decide) (nI_toInt (by omega))
      refine lv_aload_n hx hb dX7_bringBack_9 rfl (lv_at hl 1 rfl) ?_
      refine va_get (D := (dC, dI)) (ci := 7) (v := .ref (md 40)) (C := RX7) (T := TX7) (N := 59) hx hb hts hi7 hown hK hP 2 rfl rfl 40 (by decide) (hts _ (ow_m (k := 0) rfl)) (fun _ h9 => h9) rfl dX7_bringBack_10 ?_
      refine lv_iload_n hx hb dX7_bringBack_13 rfl (lv_at hl 0 rfl) ?_
      refine lv_aload_n hx hb dX7_bringBack_14 rfl (lv_at hl 1 rfl) ?_
      refine va_get (D := (dC, dI)) (ci := 7) (v := .ref (md 41)) (C := RX7) (T := TX7) (N := 59) hx hb hts hi7 hown hK hP 2 rfl rfl 41 (by decide) (hts _ (ow_m (k := 1) rfl)) (fun _ h9 => h9) rfl dX7_bringBack_15 ?_
      refine lv_iload_n hx hb dX7_bringBack_18 rfl (lv_at hl 0 rfl) ?_
      refine va_iald hx hb hK hP 1 1 rfl rfl (vp_i (nI_toInt (by omega)) (by omega) (by omega)) dX7_bringBack_19 ?_
      refine lv_topi (fun z3387 ez3387 => ?_)
      refine va_iast hx hb hK hP hD hS 0 1 rfl rfl (vp_i (nI_toInt (by omega)) (by omega) (by omega)) dX7_bringBack_20 (fun H locs hP hD hS => ?_)
      have hP : va_P (dC, dI) vwCl [(md 40, .inl (cyI, 520, .inl (upd f3384 (nI k).toNatClampNeg z3387))), (md 41, .inl (cyI, 520, .inl (u3373 0))), (h1, .inr (7, [.ref (md 0), .ref (md 1), .int 0, .int 0, .int 0, .int (-1), .int 0, .int 0, .int 0, .int 0, .long 0, .ref (md 11), .ref (md 12), .ref (md 13), .ref (md 14), .ref (md 15), .ref (md 16), .ref (md 17), .ref (md 18), .ref (md 19), .ref (md 20), .ref (md 21), .ref (md 22), .ref (md 23), .ref (md 24), .ref (md 25), .ref (md 26), .ref (md 27), .ref (md 28), .int 0, .int 0, .int 0, .int 0, .int 0, .int 0, .int 0, .int 0, .int 0, .int 0, .int 0, .ref (md 40), .ref (md 41), .int 0, .int 0, .ref (md 44), .int 0, .int 0, .ref (md 47), .ref (md 48), .int 0, .ref (md 50), .ref (md 51), .ref (md 52), .ref (md 53), .ref (md 54), .int 0, .int 0, .ref (md 57), .ref (md 58)]))] H := hP
      have hD : va_D A [(md 40, .inl (cyI, 520, .inl (upd f3384 (nI k).toNatClampNeg z3387))), (md 41, .inl (cyI, 520, .inl (u3373 0))), (h1, .inr (7, [.ref (md 0), .ref (md 1), .int 0, .int 0, .int 0, .int (-1), .int 0, .int 0, .int 0, .int 0, .long 0, .ref (md 11), .ref (md 12), .ref (md 13), .ref (md 14), .ref (md 15), .ref (md 16), .ref (md 17), .ref (md 18), .ref (md 19), .ref (md 20), .ref (md 21), .ref (md 22), .ref (md 23), .ref (md 24), .ref (md 25), .ref (md 26), .ref (md 27), .ref (md 28), .int 0, .int 0, .int 0, .int 0, .int 0, .int 0, .int 0, .int 0, .int 0, .int 0, .int 0, .ref (md 40), .ref (md 41), .int 0, .int 0, .ref (md 44), .int 0, .int 0, .ref (md 47), .ref (md 48), .int 0, .ref (md 50), .ref (md 51), .ref (md 52), .ref (md 53), .ref (md 54), .int 0, .int 0, .ref (md 57), .ref (md 58)]))] := hD
      generalize upd f3384 (nI k).toNatClampNeg z3387 = f3388 at hP hD
      refine lv_iinc (v := nI (k + 1)) (lv' := [(1, .int (nI (k + 1))), (0, .ref h1)]) hx hb dX7_bringBack_21 hl (k := 0) rfl (nI_1 k) (by decide) rfl (fun ls hl => ?_)
      refine lv_goto (tgt := 2) hx hb dX7_bringBack_24 (by decide) ?_
      have hl := lv_sub (l' := [(1, .int (nI (k + 1))), (0, .ref h1)]) hl [0, 1] rfl
      apply ih (k := k + 1) (f3384 := f3388) <;> first | assumption | omega
