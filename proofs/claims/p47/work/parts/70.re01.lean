def wo_k_Re_byteAt : List Cond := [.fieldLink RX2 29 "ReplicaChain$Reader" "length" "I", .fieldLink RX2 15 "ReplicaChain$Reader" "text" "[B"]
def wq_k_Re_byteAt : List Cond := .code yX2_byteAt cX2_byteAt 2 (some .int) :: (wo_k_Re_byteAt ++ (wsX20 ++ []))
theorem gd_k_Re_byteAt : Gd wq_k_Re_byteAt := gd_c (gd_a (gd_o (by decide +kernel)) (gd_a gd_u gd_0))
abbrev wc_k_Re_byteAt (cyB cyI cyJ cyZ cyO : ClassId) (hR : Nat) (ed : Nat → Nat) (e_text : Nat → Int32) (e_length : Int32) (e_at : Int32) (e_kind : Int32) (e_start : Int32) (e_number : Int32) (e_told : Int32) (e_faultKind : Int32) (e_faultPlace : Int32) (e_name : Int64) (x1 : Int32) (hp : Nat) : va_W := [(hR, .inr (2, [.ref (ed 0), .int e_length, .int e_at, .ref hp, .int e_kind, .int e_start, .int e_number, .long e_name, .int e_told, .int e_faultKind, .int e_faultPlace])), (ed 0, .inl (cyB, 1600, .inl e_text))]
set_option maxHeartbeats 4000000 in
set_option maxRecDepth 100000 in
theorem k_Re_byteAt (l : Launch) (dC : Nat → ClassId) (dI : Nat → Nat → Nat) (cyB cyI cyJ cyZ cyO : ClassId) (hR : Nat) (ed : Nat → Nat) (e_text : Nat → Int32) (e_length : Int32) (e_at : Int32) (e_kind : Int32) (e_start : Int32) (e_number : Int32) (e_told : Int32) (e_faultKind : Int32) (e_faultPlace : Int32) (e_name : Int64) (x1 : Int32) (hp : Nat) (sz : Nat) (l_e_length : 0 ≤ e_length.toInt) (u_e_length : e_length.toInt ≤ 1600) (l_e_at : 0 ≤ e_at.toInt) (u_e_at : e_at.toInt ≤ 1600) (l_e_kind : 0 ≤ e_kind.toInt) (u_e_kind : e_kind.toInt ≤ 5) (l_e_start : 0 ≤ e_start.toInt) (u_e_start : e_start.toInt ≤ 1600) : Met l yX2_byteAt wq_k_Re_byteAt ({ frames := 0, cells := 0, slots := 0, locals := 0 }) (va_Pc [.ref hR, .int x1] (cB (dC, dI) (kT cyB cyI cyJ cyZ cyO) (wc_k_Re_byteAt cyB cyI cyJ cyZ cyO hR ed e_text e_length e_at e_kind e_start e_number e_told e_faultKind e_faultPlace e_name x1 hp) sz)) (va_Qi (fun (r : Int32) (u : Unit) => (-1 ≤ r.toInt) ∧ (r.toInt ≤ 255)) (fun (u : Unit) t => cE (dC, dI) (va_A (wc_k_Re_byteAt cyB cyI cyJ cyZ cyO hR ed e_text e_length e_at e_kind e_start e_number e_told e_faultKind e_faultPlace e_name x1 hp) sz) ([(hR, .inr (2, [.ref (ed 0), .int e_length, .int e_at, .ref hp, .int e_kind, .int e_start, .int e_number, .long e_name, .int e_told, .int e_faultKind, .int e_faultPlace])), (ed 0, .inl (cyB, 1600, .inl e_text))]) t.heap) (va_A (wc_k_Re_byteAt cyB cyI cyJ cyZ cyO hR ed e_text e_length e_at e_kind e_start e_number e_told e_faultKind e_faultPlace e_name x1 hp) sz)) 0 0 (va_A (wc_k_Re_byteAt cyB cyI cyJ cyZ cyO hR ed e_text e_length e_at e_kind e_start e_number e_told e_faultKind e_faultPlace e_name x1 hp) sz) := by
  refine Met.ofW (cc := cX2_byteAt) (maxL := 2) (ret := (some .int)) (by decide) rfl ?_
  intro p e s m args below meth c s₁ B hml hv
  obtain ⟨rfl, hsz, hP, hKN, hD0⟩ := hv
  have hx := B.exec
  have hb := B.bytes
  have hr := B.returns
  have hts := atoms_spec (ws := wq_k_Re_byteAt) B.pre
  have hown : s.vm.findClass RX2 = some m.cls := findClass_of_methodNamed B.named
  have hlocks := B.notSynchronized
  have hK := hKN.1
  have hfix : CallFix p m c cX2_byteAt 2 s [.ref hR, .int x1].toArray wq_k_Re_byteAt RX2 := ⟨hx, hb, hml, hown, hts⟩
  have hi2 : ∀ w ∈ wsX20, w ∈ wq_k_Re_byteAt := (sb_c sb_l)
  subst hsz
  have hD := hD0.self (sz := s.heap.size)
  generalize hAe : va_A (wc_k_Re_byteAt cyB cyI cyJ cyZ cyO hR ed e_text e_length e_at e_kind e_start e_number e_told e_faultKind e_faultPlace e_name x1 hp) s.heap.size = A at hD ⊢
  have hA : ∀ q : Nat, s.heap.size ≤ q → A q := fun q h => by rw [← hAe]; exact Or.inr h
  have hS : va_S A s.heap s.heap [] := va_S.rf
  have hl := lv_entry ([.ref hR, .int x1]) (n := 2) (Nat.le_of_ble_eq_true rfl)
  rw [lg_entry_eq]
  generalize (lg_sl ([.ref hR, .int x1]) ++ List.replicate (2 - (lg_sl ([.ref hR, .int x1])).length) Slot.unset).toArray = ls at hl ⊢
  have hl : lv_has ls 2 [(0, .ref hR), (1, .int x1)] := hl
  have ckm1 : (-1 : Int32).toInt = -1 := by decide
  refine lv_iload_n hx hb dX2_byteAt_0 rfl (lv_at hl 1 rfl) ?_
  refine lv_if_lt (tgt := 25) hx hb dX2_byteAt_1 (by decide) (fun c52126 => ?_) (fun c52126 => ?_)
  · have c52126 := i_lt (a := x1.toInt) (b := 0) c52126 rfl (by decide)
    refine lv_iconst (v := (-1)) hx hb dX2_byteAt_25 (by decide) ?_
    have w52127 : -1 ≤ (-1 : Int32).toInt := by first | omega | assumption | rfl | (intros; rfl)
    have w52128 : (-1 : Int32).toInt ≤ 255 := by first | omega | assumption | rfl | (intros; rfl)
    exact W.iret (v := (-1)) hx hb hr (fun t ht hW => ⟨⟨(-1), (), rfl, ⟨w52127, w52128⟩, cE.of ht hP hD [0, 1] (by decide) rfl⟩, hS.F ht⟩) hS.2.2 dX2_byteAt_26
  · have c52126 := i_nlt (a := x1.toInt) (b := 0) c52126 rfl (by decide)
    refine lv_iload_n hx hb dX2_byteAt_4 rfl (lv_at hl 1 rfl) ?_
    refine lv_aload_n hx hb dX2_byteAt_5 rfl (lv_at hl 0 rfl) ?_
    refine va_get (D := (dC, dI)) (ci := 2) (v := .int e_length) (C := RX2) (T := TX2) (N := 11) hx hb hts hi2 hown hK hP 0 rfl rfl 1 (by decide) (hts _ (ow_m (k := 0) rfl)) (fun _ h9 => h9) rfl dX2_byteAt_6 ?_
    refine lv_icmp_ge (tgt := 25) hx hb dX2_byteAt_9 (by decide) (fun c52129 => ?_) (fun c52129 => ?_)
    · have c52129 := i_le (a := e_length.toInt) (b := x1.toInt) c52129 rfl rfl
      refine lv_iconst (v := (-1)) hx hb dX2_byteAt_25 (by decide) ?_
      have w52130 : -1 ≤ (-1 : Int32).toInt := by first | omega | assumption | rfl | (intros; rfl)
      have w52131 : (-1 : Int32).toInt ≤ 255 := by first | omega | assumption | rfl | (intros; rfl)
      exact W.iret (v := (-1)) hx hb hr (fun t ht hW => ⟨⟨(-1), (), rfl, ⟨w52130, w52131⟩, cE.of ht hP hD [0, 1] (by decide) rfl⟩, hS.F ht⟩) hS.2.2 dX2_byteAt_26
    · have c52129 := i_nle (a := e_length.toInt) (b := x1.toInt) c52129 rfl rfl
      refine lv_aload_n hx hb dX2_byteAt_12 rfl (lv_at hl 0 rfl) ?_
      refine va_get (D := (dC, dI)) (ci := 2) (v := .ref (ed 0)) (C := RX2) (T := TX2) (N := 11) hx hb hts hi2 hown hK hP 0 rfl rfl 0 (by decide) (hts _ (ow_m (k := 1) rfl)) (fun _ h9 => h9) rfl dX2_byteAt_13 ?_
      refine lv_iload_n hx hb dX2_byteAt_16 rfl (lv_at hl 1 rfl) ?_
      refine va_bald hx hb hK hP 1 0 rfl rfl (vp_i rfl (by omega) (by omega)) dX2_byteAt_17 ?_
      refine lv_topi (fun z52132 ez52132 => ?_)
      refine lv_sipush (v := 255) hx hb dX2_byteAt_18 (by decide) ?_
      refine lv_iand hx hb dX2_byteAt_21 ?_
      refine lv_topi (fun z52133 ez52133 => ?_)
      have tz52133 := ti_and z52132 (m := 255) 8 ez52133 rfl (by decide)
      refine lv_goto (tgt := 26) hx hb dX2_byteAt_22 (by decide) ?_
      have w52134 : -1 ≤ z52133.toInt := by first | omega | assumption | rfl | (intros; rfl)
      have w52135 : z52133.toInt ≤ 255 := by first | omega | assumption | rfl | (intros; rfl)
      exact W.iret (v := z52133) hx hb hr (fun t ht hW => ⟨⟨z52133, (), rfl, ⟨w52134, w52135⟩, cE.of ht hP hD [0, 1] (by decide) rfl⟩, hS.F ht⟩) hS.2.2 dX2_byteAt_26
def wo_k_Re_isLetter : List Cond := [.methodLink RX2 163 yX2_byteAt, .instanceMethod yX2_byteAt, .selects RX2 yX2_byteAt yX2_byteAt, .initialized RX2]
def wq_k_Re_isLetter : List Cond := .code yX2_isLetter cX2_isLetter 2 (some .boolean) :: (wo_k_Re_isLetter ++ (wq_k_Re_byteAt ++ []))
theorem gd_k_Re_isLetter : Gd wq_k_Re_isLetter := gd_c (gd_a (gd_o (by decide +kernel)) (gd_a gd_k_Re_byteAt gd_0))
abbrev wc_k_Re_isLetter (cyB cyI cyJ cyZ cyO : ClassId) (hR : Nat) (ed : Nat → Nat) (e_text : Nat → Int32) (e_length : Int32) (e_at : Int32) (e_kind : Int32) (e_start : Int32) (e_number : Int32) (e_told : Int32) (e_faultKind : Int32) (e_faultPlace : Int32) (e_name : Int64) (x1 : Int32) (hp : Nat) : va_W := [(hR, .inr (2, [.ref (ed 0), .int e_length, .int e_at, .ref hp, .int e_kind, .int e_start, .int e_number, .long e_name, .int e_told, .int e_faultKind, .int e_faultPlace])), (ed 0, .inl (cyB, 1600, .inl e_text))]
set_option maxHeartbeats 4000000 in
set_option maxRecDepth 100000 in
theorem k_Re_isLetter (l : Launch) (dC : Nat → ClassId) (dI : Nat → Nat → Nat) (cyB cyI cyJ cyZ cyO : ClassId) (hR : Nat) (ed : Nat → Nat) (e_text : Nat → Int32) (e_length : Int32) (e_at : Int32) (e_kind : Int32) (e_start : Int32) (e_number : Int32) (e_told : Int32) (e_faultKind : Int32) (e_faultPlace : Int32) (e_name : Int64) (x1 : Int32) (hp : Nat) (sz : Nat) (l_e_length : 0 ≤ e_length.toInt) (u_e_length : e_length.toInt ≤ 1600) (l_e_at : 0 ≤ e_at.toInt) (u_e_at : e_at.toInt ≤ 1600) (l_e_kind : 0 ≤ e_kind.toInt) (u_e_kind : e_kind.toInt ≤ 5) (l_e_start : 0 ≤ e_start.toInt) (u_e_start : e_start.toInt ≤ 1600) : Met l yX2_isLetter wq_k_Re_isLetter ({ frames := 1, cells := 0, slots := 0, locals := 21 }) (va_Pc [.ref hR, .int x1] (cB (dC, dI) (kT cyB cyI cyJ cyZ cyO) (wc_k_Re_isLetter cyB cyI cyJ cyZ cyO hR ed e_text e_length e_at e_kind e_start e_number e_told e_faultKind e_faultPlace e_name x1 hp) sz)) (va_Qi (fun (r : Int32) (u : Unit) => (0 ≤ r.toInt) ∧ (r.toInt ≤ 1)) (fun (u : Unit) t => cE (dC, dI) (va_A (wc_k_Re_isLetter cyB cyI cyJ cyZ cyO hR ed e_text e_length e_at e_kind e_start e_number e_told e_faultKind e_faultPlace e_name x1 hp) sz) ([(hR, .inr (2, [.ref (ed 0), .int e_length, .int e_at, .ref hp, .int e_kind, .int e_start, .int e_number, .long e_name, .int e_told, .int e_faultKind, .int e_faultPlace])), (ed 0, .inl (cyB, 1600, .inl e_text))]) t.heap) (va_A (wc_k_Re_isLetter cyB cyI cyJ cyZ cyO hR ed e_text e_length e_at e_kind e_start e_number e_told e_faultKind e_faultPlace e_name x1 hp) sz)) 0 0 (va_A (wc_k_Re_isLetter cyB cyI cyJ cyZ cyO hR ed e_text e_length e_at e_kind e_start e_number e_told e_faultKind e_faultPlace e_name x1 hp) sz) := by
  refine Met.ofW (cc := cX2_isLetter) (maxL := 2) (ret := (some .boolean)) (by decide) rfl ?_
  intro p e s m args below meth c s₁ B hml hv
  obtain ⟨rfl, hsz, hP, hKN, hD0⟩ := hv
  have hx := B.exec
  have hb := B.bytes
  have hr := B.returns
  have hts := atoms_spec (ws := wq_k_Re_isLetter) B.pre
  have hown : s.vm.findClass RX2 = some m.cls := findClass_of_methodNamed B.named
  have hlocks := B.notSynchronized
  have hK := hKN.1
  have hfix : CallFix p m c cX2_isLetter 2 s [.ref hR, .int x1].toArray wq_k_Re_isLetter RX2 := ⟨hx, hb, hml, hown, hts⟩
  subst hsz
  have hD := hD0.self (sz := s.heap.size)
  generalize hAe : va_A (wc_k_Re_isLetter cyB cyI cyJ cyZ cyO hR ed e_text e_length e_at e_kind e_start e_number e_told e_faultKind e_faultPlace e_name x1 hp) s.heap.size = A at hD ⊢
  have hA : ∀ q : Nat, s.heap.size ≤ q → A q := fun q h => by rw [← hAe]; exact Or.inr h
  have hS : va_S A s.heap s.heap [] := va_S.rf
  have hl := lv_entry ([.ref hR, .int x1]) (n := 2) (Nat.le_of_ble_eq_true rfl)
  rw [lg_entry_eq]
  generalize (lg_sl ([.ref hR, .int x1]) ++ List.replicate (2 - (lg_sl ([.ref hR, .int x1])).length) Slot.unset).toArray = ls at hl ⊢
  have hl : lv_has ls 2 [(0, .ref hR), (1, .int x1)] := hl
  have ck0 : (0 : Int32).toInt = 0 := by decide
  have ck1 : (1 : Int32).toInt = 1 := by decide
  refine lv_aload_n hx hb dX2_isLetter_0 rfl (lv_at hl 0 rfl) ?_
  refine lv_iload_n hx hb dX2_isLetter_1 rfl (lv_at hl 1 rfl) ?_
  refine gf_i (wr := []) (va_runV (As := [.int x1]) (rest := []) hfix (k_Re_byteAt l dC dI cyB cyI cyJ cyZ cyO hR ed e_text e_length e_at e_kind e_start e_number e_told e_faultKind e_faultPlace e_name x1 hp _ (by first | omega | assumption) (by first | omega | assumption) (by first | omega | assumption) (by first | omega | assumption) (by first | omega | assumption) (by first | omega | assumption) (by first | omega | assumption) (by first | omega | assumption)) (cwV 1 hts (gi_V (ow_m (k := 0) rfl) (ow_m (k := 1) rfl) (ow_m (k := 2) rfl) (ow_m (k := 3) rfl) (sb_c sb_l) gd_k_Re_byteAt) rfl rfl rfl (by decide +kernel) ⟨Nat.le_of_ble_eq_true rfl, Nat.le_of_ble_eq_true rfl⟩) (g_preV hKN hP hD [0, 1] rfl (by decide) 0 2 rfl rfl) rfl rfl hl.1 rfl (lv_room (Nat.le_of_ble_eq_true rfl)) dX2_isLetter_2 ⟨Nat.le_of_ble_eq_true rfl, Nat.le_of_ble_eq_true rfl⟩) hP hD hS hA [0, 1] [] rfl rfl (by decide) (by decide) (fun r52156 u52157 H locs qu52157 hP hD hS => ?_)
  obtain ⟨b52158, b52159⟩ := qu52157
  have hP : va_P (dC, dI) vwCl [(hR, .inr (2, [.ref (ed 0), .int e_length, .int e_at, .ref hp, .int e_kind, .int e_start, .int e_number, .long e_name, .int e_told, .int e_faultKind, .int e_faultPlace])), (ed 0, .inl (cyB, 1600, .inl e_text))] H := hP
  have hD : va_D A [(hR, .inr (2, [.ref (ed 0), .int e_length, .int e_at, .ref hp, .int e_kind, .int e_start, .int e_number, .long e_name, .int e_told, .int e_faultKind, .int e_faultPlace])), (ed 0, .inl (cyB, 1600, .inl e_text))] := hD
  refine lv_bipush (v := 97) hx hb dX2_isLetter_5 (by decide) ?_
  refine lv_icmp_lt (tgt := 24) hx hb dX2_isLetter_7 (by decide) (fun c52160 => ?_) (fun c52160 => ?_)
  · have c52160 := i_lt (a := r52156.toInt) (b := 97) c52160 rfl (by decide)
    refine lv_iconst (v := 0) hx hb dX2_isLetter_24 (by decide) ?_
    have w52161 : 0 ≤ (0 : Int32).toInt := by first | omega | assumption | rfl | (intros; rfl)
    have w52162 : (0 : Int32).toInt ≤ 1 := by first | omega | assumption | rfl | (intros; rfl)
    exact W.zret (v := 0) hx hb hr (by decide) (fun t ht hW => ⟨⟨0, (), rfl, ⟨w52161, w52162⟩, cE.of ht hP hD [0, 1] (by decide) rfl⟩, hS.F ht⟩) hS.2.2 dX2_isLetter_25
  · have c52160 := i_nlt (a := r52156.toInt) (b := 97) c52160 rfl (by decide)
    refine lv_aload_n hx hb dX2_isLetter_10 rfl (lv_at hl 0 rfl) ?_
    refine lv_iload_n hx hb dX2_isLetter_11 rfl (lv_at hl 1 rfl) ?_
    refine gf_i (wr := []) (va_runV (As := [.int x1]) (rest := []) hfix (k_Re_byteAt l dC dI cyB cyI cyJ cyZ cyO hR ed e_text e_length e_at e_kind e_start e_number e_told e_faultKind e_faultPlace e_name x1 hp _ (by first | omega | assumption) (by first | omega | assumption) (by first | omega | assumption) (by first | omega | assumption) (by first | omega | assumption) (by first | omega | assumption) (by first | omega | assumption) (by first | omega | assumption)) (cwV 1 hts (gi_V (ow_m (k := 0) rfl) (ow_m (k := 1) rfl) (ow_m (k := 2) rfl) (ow_m (k := 3) rfl) (sb_c sb_l) gd_k_Re_byteAt) rfl rfl rfl (by decide +kernel) ⟨Nat.le_of_ble_eq_true rfl, Nat.le_of_ble_eq_true rfl⟩) (g_preV hKN hP hD [0, 1] rfl (by decide) 0 2 rfl rfl) rfl rfl hl.1 rfl (lv_room (Nat.le_of_ble_eq_true rfl)) dX2_isLetter_12 ⟨Nat.le_of_ble_eq_true rfl, Nat.le_of_ble_eq_true rfl⟩) hP hD hS hA [0, 1] [] rfl rfl (by decide) (by decide) (fun r52163 u52164 H locs qu52164 hP hD hS => ?_)
    obtain ⟨b52165, b52166⟩ := qu52164
    have hP : va_P (dC, dI) vwCl [(hR, .inr (2, [.ref (ed 0), .int e_length, .int e_at, .ref hp, .int e_kind, .int e_start, .int e_number, .long e_name, .int e_told, .int e_faultKind, .int e_faultPlace])), (ed 0, .inl (cyB, 1600, .inl e_text))] H := hP
    have hD : va_D A [(hR, .inr (2, [.ref (ed 0), .int e_length, .int e_at, .ref hp, .int e_kind, .int e_start, .int e_number, .long e_name, .int e_told, .int e_faultKind, .int e_faultPlace])), (ed 0, .inl (cyB, 1600, .inl e_text))] := hD
    refine lv_bipush (v := 122) hx hb dX2_isLetter_15 (by decide) ?_
    refine lv_icmp_gt (tgt := 24) hx hb dX2_isLetter_17 (by decide) (fun c52167 => ?_) (fun c52167 => ?_)
    · have c52167 := i_lt (a := 122) (b := r52163.toInt) c52167 (by decide) rfl
      refine lv_iconst (v := 0) hx hb dX2_isLetter_24 (by decide) ?_
      have w52168 : 0 ≤ (0 : Int32).toInt := by first | omega | assumption | rfl | (intros; rfl)
      have w52169 : (0 : Int32).toInt ≤ 1 := by first | omega | assumption | rfl | (intros; rfl)
      exact W.zret (v := 0) hx hb hr (by decide) (fun t ht hW => ⟨⟨0, (), rfl, ⟨w52168, w52169⟩, cE.of ht hP hD [0, 1] (by decide) rfl⟩, hS.F ht⟩) hS.2.2 dX2_isLetter_25
    · have c52167 := i_nlt (a := 122) (b := r52163.toInt) c52167 (by decide) rfl
      refine lv_iconst (v := 1) hx hb dX2_isLetter_20 (by decide) ?_
      refine lv_goto (tgt := 25) hx hb dX2_isLetter_21 (by decide) ?_
      have w52170 : 0 ≤ (1 : Int32).toInt := by first | omega | assumption | rfl | (intros; rfl)
      have w52171 : (1 : Int32).toInt ≤ 1 := by first | omega | assumption | rfl | (intros; rfl)
      exact W.zret (v := 1) hx hb hr (by decide) (fun t ht hW => ⟨⟨1, (), rfl, ⟨w52170, w52171⟩, cE.of ht hP hD [0, 1] (by decide) rfl⟩, hS.F ht⟩) hS.2.2 dX2_isLetter_25
def wo_k_Re_isDigit : List Cond := [.methodLink RX2 163 yX2_byteAt, .instanceMethod yX2_byteAt, .selects RX2 yX2_byteAt yX2_byteAt, .initialized RX2]
def wq_k_Re_isDigit : List Cond := .code yX2_isDigit cX2_isDigit 2 (some .boolean) :: (wo_k_Re_isDigit ++ (wq_k_Re_byteAt ++ []))
theorem gd_k_Re_isDigit : Gd wq_k_Re_isDigit := gd_c (gd_a (gd_o (by decide +kernel)) (gd_a gd_k_Re_byteAt gd_0))
abbrev wc_k_Re_isDigit (cyB cyI cyJ cyZ cyO : ClassId) (hR : Nat) (ed : Nat → Nat) (e_text : Nat → Int32) (e_length : Int32) (e_at : Int32) (e_kind : Int32) (e_start : Int32) (e_number : Int32) (e_told : Int32) (e_faultKind : Int32) (e_faultPlace : Int32) (e_name : Int64) (x1 : Int32) (hp : Nat) : va_W := [(hR, .inr (2, [.ref (ed 0), .int e_length, .int e_at, .ref hp, .int e_kind, .int e_start, .int e_number, .long e_name, .int e_told, .int e_faultKind, .int e_faultPlace])), (ed 0, .inl (cyB, 1600, .inl e_text))]
set_option maxHeartbeats 4000000 in
set_option maxRecDepth 100000 in
theorem k_Re_isDigit (l : Launch) (dC : Nat → ClassId) (dI : Nat → Nat → Nat) (cyB cyI cyJ cyZ cyO : ClassId) (hR : Nat) (ed : Nat → Nat) (e_text : Nat → Int32) (e_length : Int32) (e_at : Int32) (e_kind : Int32) (e_start : Int32) (e_number : Int32) (e_told : Int32) (e_faultKind : Int32) (e_faultPlace : Int32) (e_name : Int64) (x1 : Int32) (hp : Nat) (sz : Nat) (l_e_length : 0 ≤ e_length.toInt) (u_e_length : e_length.toInt ≤ 1600) (l_e_at : 0 ≤ e_at.toInt) (u_e_at : e_at.toInt ≤ 1600) (l_e_kind : 0 ≤ e_kind.toInt) (u_e_kind : e_kind.toInt ≤ 5) (l_e_start : 0 ≤ e_start.toInt) (u_e_start : e_start.toInt ≤ 1600) : Met l yX2_isDigit wq_k_Re_isDigit ({ frames := 1, cells := 0, slots := 0, locals := 21 }) (va_Pc [.ref hR, .int x1] (cB (dC, dI) (kT cyB cyI cyJ cyZ cyO) (wc_k_Re_isDigit cyB cyI cyJ cyZ cyO hR ed e_text e_length e_at e_kind e_start e_number e_told e_faultKind e_faultPlace e_name x1 hp) sz)) (va_Qi (fun (r : Int32) (u : Unit) => (0 ≤ r.toInt) ∧ (r.toInt ≤ 1)) (fun (u : Unit) t => cE (dC, dI) (va_A (wc_k_Re_isDigit cyB cyI cyJ cyZ cyO hR ed e_text e_length e_at e_kind e_start e_number e_told e_faultKind e_faultPlace e_name x1 hp) sz) ([(hR, .inr (2, [.ref (ed 0), .int e_length, .int e_at, .ref hp, .int e_kind, .int e_start, .int e_number, .long e_name, .int e_told, .int e_faultKind, .int e_faultPlace])), (ed 0, .inl (cyB, 1600, .inl e_text))]) t.heap) (va_A (wc_k_Re_isDigit cyB cyI cyJ cyZ cyO hR ed e_text e_length e_at e_kind e_start e_number e_told e_faultKind e_faultPlace e_name x1 hp) sz)) 0 0 (va_A (wc_k_Re_isDigit cyB cyI cyJ cyZ cyO hR ed e_text e_length e_at e_kind e_start e_number e_told e_faultKind e_faultPlace e_name x1 hp) sz) := by
  refine Met.ofW (cc := cX2_isDigit) (maxL := 2) (ret := (some .boolean)) (by decide) rfl ?_
  intro p e s m args below meth c s₁ B hml hv
  obtain ⟨rfl, hsz, hP, hKN, hD0⟩ := hv
  have hx := B.exec
  have hb := B.bytes
  have hr := B.returns
  have hts := atoms_spec (ws := wq_k_Re_isDigit) B.pre
  have hown : s.vm.findClass RX2 = some m.cls := findClass_of_methodNamed B.named
  have hlocks := B.notSynchronized
  have hK := hKN.1
  have hfix : CallFix p m c cX2_isDigit 2 s [.ref hR, .int x1].toArray wq_k_Re_isDigit RX2 := ⟨hx, hb, hml, hown, hts⟩
  subst hsz
  have hD := hD0.self (sz := s.heap.size)
  generalize hAe : va_A (wc_k_Re_isDigit cyB cyI cyJ cyZ cyO hR ed e_text e_length e_at e_kind e_start e_number e_told e_faultKind e_faultPlace e_name x1 hp) s.heap.size = A at hD ⊢
  have hA : ∀ q : Nat, s.heap.size ≤ q → A q := fun q h => by rw [← hAe]; exact Or.inr h
  have hS : va_S A s.heap s.heap [] := va_S.rf
  have hl := lv_entry ([.ref hR, .int x1]) (n := 2) (Nat.le_of_ble_eq_true rfl)
  rw [lg_entry_eq]
  generalize (lg_sl ([.ref hR, .int x1]) ++ List.replicate (2 - (lg_sl ([.ref hR, .int x1])).length) Slot.unset).toArray = ls at hl ⊢
  have hl : lv_has ls 2 [(0, .ref hR), (1, .int x1)] := hl
  have ck0 : (0 : Int32).toInt = 0 := by decide
  have ck1 : (1 : Int32).toInt = 1 := by decide
  refine lv_aload_n hx hb dX2_isDigit_0 rfl (lv_at hl 0 rfl) ?_
  refine lv_iload_n hx hb dX2_isDigit_1 rfl (lv_at hl 1 rfl) ?_
  refine gf_i (wr := []) (va_runV (As := [.int x1]) (rest := []) hfix (k_Re_byteAt l dC dI cyB cyI cyJ cyZ cyO hR ed e_text e_length e_at e_kind e_start e_number e_told e_faultKind e_faultPlace e_name x1 hp _ (by first | omega | assumption) (by first | omega | assumption) (by first | omega | assumption) (by first | omega | assumption) (by first | omega | assumption) (by first | omega | assumption) (by first | omega | assumption) (by first | omega | assumption)) (cwV 1 hts (gi_V (ow_m (k := 0) rfl) (ow_m (k := 1) rfl) (ow_m (k := 2) rfl) (ow_m (k := 3) rfl) (sb_c sb_l) gd_k_Re_byteAt) rfl rfl rfl (by decide +kernel) ⟨Nat.le_of_ble_eq_true rfl, Nat.le_of_ble_eq_true rfl⟩) (g_preV hKN hP hD [0, 1] rfl (by decide) 0 2 rfl rfl) rfl rfl hl.1 rfl (lv_room (Nat.le_of_ble_eq_true rfl)) dX2_isDigit_2 ⟨Nat.le_of_ble_eq_true rfl, Nat.le_of_ble_eq_true rfl⟩) hP hD hS hA [0, 1] [] rfl rfl (by decide) (by decide) (fun r52192 u52193 H locs qu52193 hP hD hS => ?_)
  obtain ⟨b52194, b52195⟩ := qu52193
  have hP : va_P (dC, dI) vwCl [(hR, .inr (2, [.ref (ed 0), .int e_length, .int e_at, .ref hp, .int e_kind, .int e_start, .int e_number, .long e_name, .int e_told, .int e_faultKind, .int e_faultPlace])), (ed 0, .inl (cyB, 1600, .inl e_text))] H := hP
  have hD : va_D A [(hR, .inr (2, [.ref (ed 0), .int e_length, .int e_at, .ref hp, .int e_kind, .int e_start, .int e_number, .long e_name, .int e_told, .int e_faultKind, .int e_faultPlace])), (ed 0, .inl (cyB, 1600, .inl e_text))] := hD
  refine lv_bipush (v := 48) hx hb dX2_isDigit_5 (by decide) ?_
  refine lv_icmp_lt (tgt := 24) hx hb dX2_isDigit_7 (by decide) (fun c52196 => ?_) (fun c52196 => ?_)
  · have c52196 := i_lt (a := r52192.toInt) (b := 48) c52196 rfl (by decide)
    refine lv_iconst (v := 0) hx hb dX2_isDigit_24 (by decide) ?_
    have w52197 : 0 ≤ (0 : Int32).toInt := by first | omega | assumption | rfl | (intros; rfl)
    have w52198 : (0 : Int32).toInt ≤ 1 := by first | omega | assumption | rfl | (intros; rfl)
    exact W.zret (v := 0) hx hb hr (by decide) (fun t ht hW => ⟨⟨0, (), rfl, ⟨w52197, w52198⟩, cE.of ht hP hD [0, 1] (by decide) rfl⟩, hS.F ht⟩) hS.2.2 dX2_isDigit_25
  · have c52196 := i_nlt (a := r52192.toInt) (b := 48) c52196 rfl (by decide)
    refine lv_aload_n hx hb dX2_isDigit_10 rfl (lv_at hl 0 rfl) ?_
    refine lv_iload_n hx hb dX2_isDigit_11 rfl (lv_at hl 1 rfl) ?_
    refine gf_i (wr := []) (va_runV (As := [.int x1]) (rest := []) hfix (k_Re_byteAt l dC dI cyB cyI cyJ cyZ cyO hR ed e_text e_length e_at e_kind e_start e_number e_told e_faultKind e_faultPlace e_name x1 hp _ (by first | omega | assumption) (by first | omega | assumption) (by first | omega | assumption) (by first | omega | assumption) (by first | omega | assumption) (by first | omega | assumption) (by first | omega | assumption) (by first | omega | assumption)) (cwV 1 hts (gi_V (ow_m (k := 0) rfl) (ow_m (k := 1) rfl) (ow_m (k := 2) rfl) (ow_m (k := 3) rfl) (sb_c sb_l) gd_k_Re_byteAt) rfl rfl rfl (by decide +kernel) ⟨Nat.le_of_ble_eq_true rfl, Nat.le_of_ble_eq_true rfl⟩) (g_preV hKN hP hD [0, 1] rfl (by decide) 0 2 rfl rfl) rfl rfl hl.1 rfl (lv_room (Nat.le_of_ble_eq_true rfl)) dX2_isDigit_12 ⟨Nat.le_of_ble_eq_true rfl, Nat.le_of_ble_eq_true rfl⟩) hP hD hS hA [0, 1] [] rfl rfl (by decide) (by decide) (fun r52199 u52200 H locs qu52200 hP hD hS => ?_)
    obtain ⟨b52201, b52202⟩ := qu52200
    have hP : va_P (dC, dI) vwCl [(hR, .inr (2, [.ref (ed 0), .int e_length, .int e_at, .ref hp, .int e_kind, .int e_start, .int e_number, .long e_name, .int e_told, .int e_faultKind, .int e_faultPlace])), (ed 0, .inl (cyB, 1600, .inl e_text))] H := hP
    have hD : va_D A [(hR, .inr (2, [.ref (ed 0), .int e_length, .int e_at, .ref hp, .int e_kind, .int e_start, .int e_number, .long e_name, .int e_told, .int e_faultKind, .int e_faultPlace])), (ed 0, .inl (cyB, 1600, .inl e_text))] := hD
    refine lv_bipush (v := 57) hx hb dX2_isDigit_15 (by decide) ?_
    refine lv_icmp_gt (tgt := 24) hx hb dX2_isDigit_17 (by decide) (fun c52203 => ?_) (fun c52203 => ?_)
    · have c52203 := i_lt (a := 57) (b := r52199.toInt) c52203 (by decide) rfl
      refine lv_iconst (v := 0) hx hb dX2_isDigit_24 (by decide) ?_
      have w52204 : 0 ≤ (0 : Int32).toInt := by first | omega | assumption | rfl | (intros; rfl)
      have w52205 : (0 : Int32).toInt ≤ 1 := by first | omega | assumption | rfl | (intros; rfl)
      exact W.zret (v := 0) hx hb hr (by decide) (fun t ht hW => ⟨⟨0, (), rfl, ⟨w52204, w52205⟩, cE.of ht hP hD [0, 1] (by decide) rfl⟩, hS.F ht⟩) hS.2.2 dX2_isDigit_25
    · have c52203 := i_nlt (a := 57) (b := r52199.toInt) c52203 (by decide) rfl
      refine lv_iconst (v := 1) hx hb dX2_isDigit_20 (by decide) ?_
      refine lv_goto (tgt := 25) hx hb dX2_isDigit_21 (by decide) ?_
      have w52206 : 0 ≤ (1 : Int32).toInt := by first | omega | assumption | rfl | (intros; rfl)
      have w52207 : (1 : Int32).toInt ≤ 1 := by first | omega | assumption | rfl | (intros; rfl)
      exact W.zret (v := 1) hx hb hr (by decide) (fun t ht hW => ⟨⟨1, (), rfl, ⟨w52206, w52207⟩, cE.of ht hP hD [0, 1] (by decide) rfl⟩, hS.F ht⟩) hS.2.2 dX2_isDigit_25
def wo_k_Re_isGood : List Cond := [.fieldLink RX2 43 "ReplicaChain$Reader" "faultKind" "I"]
def wq_k_Re_isGood : List Cond := .code yX2_isGood cX2_isGood 1 (some .boolean) :: (wo_k_Re_isGood ++ (wsX20 ++ []))
theorem gd_k_Re_isGood : Gd wq_k_Re_isGood := gd_c (gd_a (gd_o (by decide +kernel)) (gd_a gd_u gd_0))
abbrev wc_k_Re_isGood (cyB cyI cyJ cyZ cyO : ClassId) (hR : Nat) (ed : Nat → Nat) (e_length : Int32) (e_at : Int32) (e_kind : Int32) (e_start : Int32) (e_number : Int32) (e_told : Int32) (e_faultKind : Int32) (e_faultPlace : Int32) (e_name : Int64) (hp : Nat) : va_W := [(hR, .inr (2, [.ref (ed 0), .int e_length, .int e_at, .ref hp, .int e_kind, .int e_start, .int e_number, .long e_name, .int e_told, .int e_faultKind, .int e_faultPlace]))]
set_option maxHeartbeats 4000000 in
set_option maxRecDepth 100000 in
theorem k_Re_isGood (l : Launch) (dC : Nat → ClassId) (dI : Nat → Nat → Nat) (cyB cyI cyJ cyZ cyO : ClassId) (hR : Nat) (ed : Nat → Nat) (e_length : Int32) (e_at : Int32) (e_kind : Int32) (e_start : Int32) (e_number : Int32) (e_told : Int32) (e_faultKind : Int32) (e_faultPlace : Int32) (e_name : Int64) (hp : Nat) (sz : Nat) (l_e_length : 0 ≤ e_length.toInt) (u_e_length : e_length.toInt ≤ 1600) (l_e_at : 0 ≤ e_at.toInt) (u_e_at : e_at.toInt ≤ 1600) (l_e_kind : 0 ≤ e_kind.toInt) (u_e_kind : e_kind.toInt ≤ 5) (l_e_start : 0 ≤ e_start.toInt) (u_e_start : e_start.toInt ≤ 1600) : Met l yX2_isGood wq_k_Re_isGood ({ frames := 0, cells := 0, slots := 0, locals := 0 }) (va_Pc [.ref hR] (cB (dC, dI) (kT cyB cyI cyJ cyZ cyO) (wc_k_Re_isGood cyB cyI cyJ cyZ cyO hR ed e_length e_at e_kind e_start e_number e_told e_faultKind e_faultPlace e_name hp) sz)) (va_Qi (fun (r : Int32) (u : Unit) => (((r = 1 ∧ (e_faultKind.toInt = 0)) ∨ (r = 0 ∧ (e_faultKind.toInt ≠ 0))))) (fun (u : Unit) t => cE (dC, dI) (va_A (wc_k_Re_isGood cyB cyI cyJ cyZ cyO hR ed e_length e_at e_kind e_start e_number e_told e_faultKind e_faultPlace e_name hp) sz) ([(hR, .inr (2, [.ref (ed 0), .int e_length, .int e_at, .ref hp, .int e_kind, .int e_start, .int e_number, .long e_name, .int e_told, .int e_faultKind, .int e_faultPlace]))]) t.heap) (va_A (wc_k_Re_isGood cyB cyI cyJ cyZ cyO hR ed e_length e_at e_kind e_start e_number e_told e_faultKind e_faultPlace e_name hp) sz)) 0 0 (va_A (wc_k_Re_isGood cyB cyI cyJ cyZ cyO hR ed e_length e_at e_kind e_start e_number e_told e_faultKind e_faultPlace e_name hp) sz) := by
  refine Met.ofW (cc := cX2_isGood) (maxL := 1) (ret := (some .boolean)) (by decide) rfl ?_
  intro p e s m args below meth c s₁ B hml hv
  obtain ⟨rfl, hsz, hP, hKN, hD0⟩ := hv
  have hx := B.exec
  have hb := B.bytes
  have hr := B.returns
  have hts := atoms_spec (ws := wq_k_Re_isGood) B.pre
  have hown : s.vm.findClass RX2 = some m.cls := findClass_of_methodNamed B.named
  have hlocks := B.notSynchronized
  have hK := hKN.1
  have hfix : CallFix p m c cX2_isGood 1 s [.ref hR].toArray wq_k_Re_isGood RX2 := ⟨hx, hb, hml, hown, hts⟩
  have hi2 : ∀ w ∈ wsX20, w ∈ wq_k_Re_isGood := (sb_c sb_l)
  subst hsz
  have hD := hD0.self (sz := s.heap.size)
  generalize hAe : va_A (wc_k_Re_isGood cyB cyI cyJ cyZ cyO hR ed e_length e_at e_kind e_start e_number e_told e_faultKind e_faultPlace e_name hp) s.heap.size = A at hD ⊢
  have hA : ∀ q : Nat, s.heap.size ≤ q → A q := fun q h => by rw [← hAe]; exact Or.inr h
  have hS : va_S A s.heap s.heap [] := va_S.rf
  have hl := lv_entry ([.ref hR]) (n := 1) (Nat.le_of_ble_eq_true rfl)
  rw [lg_entry_eq]
  generalize (lg_sl ([.ref hR]) ++ List.replicate (1 - (lg_sl ([.ref hR])).length) Slot.unset).toArray = ls at hl ⊢
  have hl : lv_has ls 1 [(0, .ref hR)] := hl
  refine lv_aload_n hx hb dX2_isGood_0 rfl (lv_at hl 0 rfl) ?_
  refine va_get (D := (dC, dI)) (ci := 2) (v := .int e_faultKind) (C := RX2) (T := TX2) (N := 11) hx hb hts hi2 hown hK hP 0 rfl rfl 9 (by decide) (hts _ (ow_m (k := 0) rfl)) (fun _ h9 => h9) rfl dX2_isGood_1 ?_
  refine lv_if_ne (tgt := 11) hx hb dX2_isGood_4 (by decide) (fun c52210 => ?_) (fun c52210 => ?_)
  · have c52210 := i_ne (a := e_faultKind.toInt) (b := 0) c52210 rfl (by decide)
    refine lv_iconst (v := 0) hx hb dX2_isGood_11 (by decide) ?_
    have w52211 : e_faultKind.toInt ≠ 0 := by first | omega | assumption | rfl
    exact W.zret (v := 0) hx hb hr (by decide) (fun t ht hW => ⟨⟨0, (), rfl, (Or.inr ⟨rfl, w52211⟩), cE.of ht hP hD [0] (by decide) rfl⟩, hS.F ht⟩) hS.2.2 dX2_isGood_12
  · have c52210 := i_eq (a := e_faultKind.toInt) (b := 0) c52210 rfl (by decide)
    refine lv_iconst (v := 1) hx hb dX2_isGood_7 (by decide) ?_
    refine lv_goto (tgt := 12) hx hb dX2_isGood_8 (by decide) ?_
    have w52212 : e_faultKind.toInt = 0 := by first | omega | assumption | rfl
    exact W.zret (v := 1) hx hb hr (by decide) (fun t ht hW => ⟨⟨1, (), rfl, (Or.inl ⟨rfl, w52212⟩), cE.of ht hP hD [0] (by decide) rfl⟩, hS.F ht⟩) hS.2.2 dX2_isGood_12
def wo_k_Re_refuse : List Cond := [.methodLink RX2 49 yX2_isGood, .instanceMethod yX2_isGood, .selects RX2 yX2_isGood yX2_isGood, .initialized RX2, .fieldLink RX2 53 "ReplicaChain$Reader" "kind" "I", .fieldLink RX2 43 "ReplicaChain$Reader" "faultKind" "I", .fieldLink RX2 59 "ReplicaChain$Reader" "start" "I", .fieldLink RX2 9 "ReplicaChain$Reader" "faultPlace" "I"]
def wq_k_Re_refuse : List Cond := .code yX2_refuse cX2_refuse 2 none :: (wo_k_Re_refuse ++ (wq_k_Re_isGood ++ (wsX20 ++ [])))
theorem gd_k_Re_refuse : Gd wq_k_Re_refuse := gd_c (gd_a (gd_o (by decide +kernel)) (gd_a gd_k_Re_isGood (gd_a gd_u gd_0)))
abbrev wc_k_Re_refuse (cyB cyI cyJ cyZ cyO : ClassId) (hR : Nat) (ed : Nat → Nat) (e_length : Int32) (e_at : Int32) (e_kind : Int32) (e_start : Int32) (e_number : Int32) (e_told : Int32) (e_faultKind : Int32) (e_faultPlace : Int32) (e_name : Int64) (x1 : Int32) (hp : Nat) : va_W := [(hR, .inr (2, [.ref (ed 0), .int e_length, .int e_at, .ref hp, .int e_kind, .int e_start, .int e_number, .long e_name, .int e_told, .int e_faultKind, .int e_faultPlace]))]
set_option maxHeartbeats 4000000 in
set_option maxRecDepth 100000 in
theorem k_Re_refuse (l : Launch) (dC : Nat → ClassId) (dI : Nat → Nat → Nat) (cyB cyI cyJ cyZ cyO : ClassId) (hR : Nat) (ed : Nat → Nat) (e_length : Int32) (e_at : Int32) (e_kind : Int32) (e_start : Int32) (e_number : Int32) (e_told : Int32) (e_faultKind : Int32) (e_faultPlace : Int32) (e_name : Int64) (x1 : Int32) (hp : Nat) (sz : Nat) (l_e_length : 0 ≤ e_length.toInt) (u_e_length : e_length.toInt ≤ 1600) (l_e_at : 0 ≤ e_at.toInt) (u_e_at : e_at.toInt ≤ 1600) (l_e_kind : 0 ≤ e_kind.toInt) (u_e_kind : e_kind.toInt ≤ 5) (l_e_start : 0 ≤ e_start.toInt) (u_e_start : e_start.toInt ≤ 1600) (l_x1 : 2 ≤ x1.toInt) (u_x1 : x1.toInt ≤ 4) : Met l yX2_refuse wq_k_Re_refuse ({ frames := 1, cells := 0, slots := 0, locals := 20 }) (va_Pc [.ref hR, .int x1] (cB (dC, dI) (kT cyB cyI cyJ cyZ cyO) (wc_k_Re_refuse cyB cyI cyJ cyZ cyO hR ed e_length e_at e_kind e_start e_number e_told e_faultKind e_faultPlace e_name x1 hp) sz)) (va_Qv (fun (u : ST4) => ((u.2.1 0).toInt ≠ 0)) (fun (u : ST4) t => cE (dC, dI) (va_A (wc_k_Re_refuse cyB cyI cyJ cyZ cyO hR ed e_length e_at e_kind e_start e_number e_told e_faultKind e_faultPlace e_name x1 hp) sz) ([(hR, .inr (2, [.ref (ed 0), .int e_length, .int e_at, .ref hp, .int e_kind, .int e_start, .int e_number, .long e_name, .int e_told, .int (u.2.1 0), .int (u.2.1 1)]))]) t.heap) (va_A (wc_k_Re_refuse cyB cyI cyJ cyZ cyO hR ed e_length e_at e_kind e_start e_number e_told e_faultKind e_faultPlace e_name x1 hp) sz)) 0 0 (va_A (wc_k_Re_refuse cyB cyI cyJ cyZ cyO hR ed e_length e_at e_kind e_start e_number e_told e_faultKind e_faultPlace e_name x1 hp) sz) := by
  refine Met.ofW (cc := cX2_refuse) (maxL := 2) (ret := none) (by decide) rfl ?_
  intro p e s m args below meth c s₁ B hml hv
  obtain ⟨rfl, hsz, hP, hKN, hD0⟩ := hv
  have hx := B.exec
  have hb := B.bytes
  have hr := B.returns
  have hts := atoms_spec (ws := wq_k_Re_refuse) B.pre
  have hown : s.vm.findClass RX2 = some m.cls := findClass_of_methodNamed B.named
  have hlocks := B.notSynchronized
  have hK := hKN.1
  have hfix : CallFix p m c cX2_refuse 2 s [.ref hR, .int x1].toArray wq_k_Re_refuse RX2 := ⟨hx, hb, hml, hown, hts⟩
  have hi2 : ∀ w ∈ wsX20, w ∈ wq_k_Re_refuse := (sb_c (sb_r sb_l))
  subst hsz
  have hD := hD0.self (sz := s.heap.size)
  generalize hAe : va_A (wc_k_Re_refuse cyB cyI cyJ cyZ cyO hR ed e_length e_at e_kind e_start e_number e_told e_faultKind e_faultPlace e_name x1 hp) s.heap.size = A at hD ⊢
  have hA : ∀ q : Nat, s.heap.size ≤ q → A q := fun q h => by rw [← hAe]; exact Or.inr h
  have hS : va_S A s.heap s.heap [] := va_S.rf
  have hl := lv_entry ([.ref hR, .int x1]) (n := 2) (Nat.le_of_ble_eq_true rfl)
  rw [lg_entry_eq]
  generalize (lg_sl ([.ref hR, .int x1]) ++ List.replicate (2 - (lg_sl ([.ref hR, .int x1])).length) Slot.unset).toArray = ls at hl ⊢
  have hl : lv_has ls 2 [(0, .ref hR), (1, .int x1)] := hl
  have ck0 : (0 : Int32).toInt = 0 := by decide
  have ck1 : (1 : Int32).toInt = 1 := by decide
  refine lv_aload_n hx hb dX2_refuse_0 rfl (lv_at hl 0 rfl) ?_
  refine gf_i (wr := []) (va_runV (As := []) (rest := []) hfix (k_Re_isGood l dC dI cyB cyI cyJ cyZ cyO hR ed e_length e_at e_kind e_start e_number e_told e_faultKind e_faultPlace e_name hp _ (by first | omega | assumption) (by first | omega | assumption) (by first | omega | assumption) (by first | omega | assumption) (by first | omega | assumption) (by first | omega | assumption) (by first | omega | assumption) (by first | omega | assumption)) (cwV 0 hts (gi_V (ow_m (k := 0) rfl) (ow_m (k := 1) rfl) (ow_m (k := 2) rfl) (ow_m (k := 3) rfl) (sb_c sb_l) gd_k_Re_isGood) rfl rfl rfl (by decide +kernel) ⟨Nat.le_of_ble_eq_true rfl, Nat.le_of_ble_eq_true rfl⟩) (g_preV hKN hP hD [0] rfl (by decide) 0 2 rfl rfl) rfl rfl hl.1 rfl (lv_room (Nat.le_of_ble_eq_true rfl)) dX2_refuse_1 ⟨Nat.le_of_ble_eq_true rfl, Nat.le_of_ble_eq_true rfl⟩) hP hD hS hA [0] [] rfl rfl (by decide) (by decide) (fun r52229 u52230 H locs qu52230 hP hD hS => ?_)
  have b52231 := qu52230
  have hP : va_P (dC, dI) vwCl [(hR, .inr (2, [.ref (ed 0), .int e_length, .int e_at, .ref hp, .int e_kind, .int e_start, .int e_number, .long e_name, .int e_told, .int e_faultKind, .int e_faultPlace]))] H := hP
  have hD : va_D A [(hR, .inr (2, [.ref (ed 0), .int e_length, .int e_at, .ref hp, .int e_kind, .int e_start, .int e_number, .long e_name, .int e_told, .int e_faultKind, .int e_faultPlace]))] := hD
  rcases b52231 with ⟨rfl, b52232⟩ | ⟨rfl, b52233⟩
  · skip
    refine lv_if_eq (tgt := 32) hx hb dX2_refuse_4 (by decide) (fun c52234 => absurd c52234 (by decide)) (fun _ => ?_)
    refine lv_aload_n hx hb dX2_refuse_7 rfl (lv_at hl 0 rfl) ?_
    refine lv_aload_n hx hb dX2_refuse_8 rfl (lv_at hl 0 rfl) ?_
    refine va_get (D := (dC, dI)) (ci := 2) (v := .int e_kind) (C := RX2) (T := TX2) (N := 11) hx hb hts hi2 hown hK hP 0 rfl rfl 4 (by decide) (hts _ (ow_m (k := 4) rfl)) (fun _ h9 => h9) rfl dX2_refuse_9 ?_
    refine lv_iconst (v := 5) hx hb dX2_refuse_12 (by decide) ?_
    refine lv_icmp_ne (tgt := 20) hx hb dX2_refuse_13 (by decide) (fun c52235 => ?_) (fun c52235 => ?_)
    · have c52235 := i_ne (a := e_kind.toInt) (b := 5) c52235 rfl (by decide)
      refine lv_iload_n hx hb dX2_refuse_20 rfl (lv_at hl 1 rfl) ?_
      refine va_put (D := (dC, dI)) (ci := 2) (v := .int x1) (ty := .int) (C := RX2) (T := TX2) (N := 11) hx hb hts hi2 tyX2 tyX2_ok nmX2 hown hK hP hD hS 0 rfl rfl 9 (by decide) (hts _ (ow_m (k := 5) rfl)) (fun _ h9 => h9) rfl (by decide +kernel) rfl rfl (Nat.le_of_ble_eq_true rfl) dX2_refuse_21 (fun H locs hP hD hS => ?_)
      have hP : va_P (dC, dI) vwCl [(hR, .inr (2, [.ref (ed 0), .int e_length, .int e_at, .ref hp, .int e_kind, .int e_start, .int e_number, .long e_name, .int e_told, .int x1, .int e_faultPlace]))] H := hP
      have hD : va_D A [(hR, .inr (2, [.ref (ed 0), .int e_length, .int e_at, .ref hp, .int e_kind, .int e_start, .int e_number, .long e_name, .int e_told, .int x1, .int e_faultPlace]))] := hD
      refine lv_aload_n hx hb dX2_refuse_24 rfl (lv_at hl 0 rfl) ?_
      refine lv_aload_n hx hb dX2_refuse_25 rfl (lv_at hl 0 rfl) ?_
      refine va_get (D := (dC, dI)) (ci := 2) (v := .int e_start) (C := RX2) (T := TX2) (N := 11) hx hb hts hi2 hown hK hP 0 rfl rfl 5 (by decide) (hts _ (ow_m (k := 6) rfl)) (fun _ h9 => h9) rfl dX2_refuse_26 ?_
      refine va_put (D := (dC, dI)) (ci := 2) (v := .int e_start) (ty := .int) (C := RX2) (T := TX2) (N := 11) hx hb hts hi2 tyX2 tyX2_ok nmX2 hown hK hP hD hS 0 rfl rfl 10 (by decide) (hts _ (ow_m (k := 7) rfl)) (fun _ h9 => h9) rfl (by decide +kernel) rfl rfl (Nat.le_of_ble_eq_true rfl) dX2_refuse_29 (fun H locs hP hD hS => ?_)
      have hP : va_P (dC, dI) vwCl [(hR, .inr (2, [.ref (ed 0), .int e_length, .int e_at, .ref hp, .int e_kind, .int e_start, .int e_number, .long e_name, .int e_told, .int x1, .int e_start]))] H := hP
      have hD : va_D A [(hR, .inr (2, [.ref (ed 0), .int e_length, .int e_at, .ref hp, .int e_kind, .int e_start, .int e_number, .long e_name, .int e_told, .int x1, .int e_start]))] := hD
      have w52236 : x1.toInt ≠ 0 := by first | omega | assumption | rfl | (intros; rfl)
      exact W.vret hx hb hr (fun t ht hW => ⟨⟨((fun _ => fun _ => 0), (fun k => match k with | 0 => x1 | _ => e_start), (fun _ => 0), (fun _ => fun _ => 0)), rfl, w52236, cE.of ht hP hD [0] (by decide) rfl⟩, hS.F ht⟩) hS.2.2 dX2_refuse_32
    · have c52235 := i_eq (a := e_kind.toInt) (b := 5) c52235 rfl (by decide)
      refine lv_iconst (v := 1) hx hb dX2_refuse_16 (by decide) ?_
      refine lv_goto (tgt := 21) hx hb dX2_refuse_17 (by decide) ?_
      refine va_put (D := (dC, dI)) (ci := 2) (v := .int 1) (ty := .int) (C := RX2) (T := TX2) (N := 11) hx hb hts hi2 tyX2 tyX2_ok nmX2 hown hK hP hD hS 0 rfl rfl 9 (by decide) (hts _ (ow_m (k := 5) rfl)) (fun _ h9 => h9) rfl (by decide +kernel) rfl rfl (Nat.le_of_ble_eq_true rfl) dX2_refuse_21 (fun H locs hP hD hS => ?_)
      have hP : va_P (dC, dI) vwCl [(hR, .inr (2, [.ref (ed 0), .int e_length, .int e_at, .ref hp, .int e_kind, .int e_start, .int e_number, .long e_name, .int e_told, .int 1, .int e_faultPlace]))] H := hP
      have hD : va_D A [(hR, .inr (2, [.ref (ed 0), .int e_length, .int e_at, .ref hp, .int e_kind, .int e_start, .int e_number, .long e_name, .int e_told, .int 1, .int e_faultPlace]))] := hD
      refine lv_aload_n hx hb dX2_refuse_24 rfl (lv_at hl 0 rfl) ?_
      refine lv_aload_n hx hb dX2_refuse_25 rfl (lv_at hl 0 rfl) ?_
      refine va_get (D := (dC, dI)) (ci := 2) (v := .int e_start) (C := RX2) (T := TX2) (N := 11) hx hb hts hi2 hown hK hP 0 rfl rfl 5 (by decide) (hts _ (ow_m (k := 6) rfl)) (fun _ h9 => h9) rfl dX2_refuse_26 ?_
      refine va_put (D := (dC, dI)) (ci := 2) (v := .int e_start) (ty := .int) (C := RX2) (T := TX2) (N := 11) hx hb hts hi2 tyX2 tyX2_ok nmX2 hown hK hP hD hS 0 rfl rfl 10 (by decide) (hts _ (ow_m (k := 7) rfl)) (fun _ h9 => h9) rfl (by decide +kernel) rfl rfl (Nat.le_of_ble_eq_true rfl) dX2_refuse_29 (fun H locs hP hD hS => ?_)
      have hP : va_P (dC, dI) vwCl [(hR, .inr (2, [.ref (ed 0), .int e_length, .int e_at, .ref hp, .int e_kind, .int e_start, .int e_number, .long e_name, .int e_told, .int 1, .int e_start]))] H := hP
      have hD : va_D A [(hR, .inr (2, [.ref (ed 0), .int e_length, .int e_at, .ref hp, .int e_kind, .int e_start, .int e_number, .long e_name, .int e_told, .int 1, .int e_start]))] := hD
      have w52237 : (1 : Int32).toInt ≠ 0 := by first | omega | assumption | rfl | (intros; rfl)
      exact W.vret hx hb hr (fun t ht hW => ⟨⟨((fun _ => fun _ => 0), (fun k => match k with | 0 => 1 | _ => e_start), (fun _ => 0), (fun _ => fun _ => 0)), rfl, w52237, cE.of ht hP hD [0] (by decide) rfl⟩, hS.F ht⟩) hS.2.2 dX2_refuse_32
  · skip
    refine lv_if_eq (tgt := 32) hx hb dX2_refuse_4 (by decide) (fun _ => ?_) (fun c52238 => absurd (by decide) c52238)
    have w52239 : e_faultKind.toInt ≠ 0 := by first | omega | assumption | rfl | (intros; rfl)
    exact W.vret hx hb hr (fun t ht hW => ⟨⟨((fun _ => fun _ => 0), (fun k => match k with | 0 => e_faultKind | _ => e_faultPlace), (fun _ => 0), (fun _ => fun _ => 0)), rfl, w52239, cE.of ht hP hD [0] (by decide) rfl⟩, hS.F ht⟩) hS.2.2 dX2_refuse_32
def wo_k_Re_isWord : List Cond := [.fieldLink RX2 53 "ReplicaChain$Reader" "kind" "I", .fieldLink RX2 62 "ReplicaChain$Reader" "number" "I"]
def wq_k_Re_isWord : List Cond := .code yX2_isWord cX2_isWord 2 (some .boolean) :: (wo_k_Re_isWord ++ (wsX20 ++ []))
theorem gd_k_Re_isWord : Gd wq_k_Re_isWord := gd_c (gd_a (gd_o (by decide +kernel)) (gd_a gd_u gd_0))
abbrev wc_k_Re_isWord (cyB cyI cyJ cyZ cyO : ClassId) (hR : Nat) (ed : Nat → Nat) (e_length : Int32) (e_at : Int32) (e_kind : Int32) (e_start : Int32) (e_number : Int32) (e_told : Int32) (e_faultKind : Int32) (e_faultPlace : Int32) (e_name : Int64) (x1 : Int32) (hp : Nat) : va_W := [(hR, .inr (2, [.ref (ed 0), .int e_length, .int e_at, .ref hp, .int e_kind, .int e_start, .int e_number, .long e_name, .int e_told, .int e_faultKind, .int e_faultPlace]))]
set_option maxHeartbeats 4000000 in
set_option maxRecDepth 100000 in
theorem k_Re_isWord (l : Launch) (dC : Nat → ClassId) (dI : Nat → Nat → Nat) (cyB cyI cyJ cyZ cyO : ClassId) (hR : Nat) (ed : Nat → Nat) (e_length : Int32) (e_at : Int32) (e_kind : Int32) (e_start : Int32) (e_number : Int32) (e_told : Int32) (e_faultKind : Int32) (e_faultPlace : Int32) (e_name : Int64) (x1 : Int32) (hp : Nat) (sz : Nat) (l_e_length : 0 ≤ e_length.toInt) (u_e_length : e_length.toInt ≤ 1600) (l_e_at : 0 ≤ e_at.toInt) (u_e_at : e_at.toInt ≤ 1600) (l_e_kind : 0 ≤ e_kind.toInt) (u_e_kind : e_kind.toInt ≤ 5) (l_e_start : 0 ≤ e_start.toInt) (u_e_start : e_start.toInt ≤ 1600) : Met l yX2_isWord wq_k_Re_isWord ({ frames := 0, cells := 0, slots := 0, locals := 0 }) (va_Pc [.ref hR, .int x1] (cB (dC, dI) (kT cyB cyI cyJ cyZ cyO) (wc_k_Re_isWord cyB cyI cyJ cyZ cyO hR ed e_length e_at e_kind e_start e_number e_told e_faultKind e_faultPlace e_name x1 hp) sz)) (va_Qi (fun (r : Int32) (u : Unit) => (0 ≤ r.toInt) ∧ (r.toInt ≤ 1)) (fun (u : Unit) t => cE (dC, dI) (va_A (wc_k_Re_isWord cyB cyI cyJ cyZ cyO hR ed e_length e_at e_kind e_start e_number e_told e_faultKind e_faultPlace e_name x1 hp) sz) ([(hR, .inr (2, [.ref (ed 0), .int e_length, .int e_at, .ref hp, .int e_kind, .int e_start, .int e_number, .long e_name, .int e_told, .int e_faultKind, .int e_faultPlace]))]) t.heap) (va_A (wc_k_Re_isWord cyB cyI cyJ cyZ cyO hR ed e_length e_at e_kind e_start e_number e_told e_faultKind e_faultPlace e_name x1 hp) sz)) 0 0 (va_A (wc_k_Re_isWord cyB cyI cyJ cyZ cyO hR ed e_length e_at e_kind e_start e_number e_told e_faultKind e_faultPlace e_name x1 hp) sz) := by
  refine Met.ofW (cc := cX2_isWord) (maxL := 2) (ret := (some .boolean)) (by decide) rfl ?_
  intro p e s m args below meth c s₁ B hml hv
  obtain ⟨rfl, hsz, hP, hKN, hD0⟩ := hv
  have hx := B.exec
  have hb := B.bytes
  have hr := B.returns
  have hts := atoms_spec (ws := wq_k_Re_isWord) B.pre
  have hown : s.vm.findClass RX2 = some m.cls := findClass_of_methodNamed B.named
  have hlocks := B.notSynchronized
  have hK := hKN.1
  have hfix : CallFix p m c cX2_isWord 2 s [.ref hR, .int x1].toArray wq_k_Re_isWord RX2 := ⟨hx, hb, hml, hown, hts⟩
  have hi2 : ∀ w ∈ wsX20, w ∈ wq_k_Re_isWord := (sb_c sb_l)
  subst hsz
  have hD := hD0.self (sz := s.heap.size)
  generalize hAe : va_A (wc_k_Re_isWord cyB cyI cyJ cyZ cyO hR ed e_length e_at e_kind e_start e_number e_told e_faultKind e_faultPlace e_name x1 hp) s.heap.size = A at hD ⊢
  have hA : ∀ q : Nat, s.heap.size ≤ q → A q := fun q h => by rw [← hAe]; exact Or.inr h
  have hS : va_S A s.heap s.heap [] := va_S.rf
  have hl := lv_entry ([.ref hR, .int x1]) (n := 2) (Nat.le_of_ble_eq_true rfl)
  rw [lg_entry_eq]
  generalize (lg_sl ([.ref hR, .int x1]) ++ List.replicate (2 - (lg_sl ([.ref hR, .int x1])).length) Slot.unset).toArray = ls at hl ⊢
  have hl : lv_has ls 2 [(0, .ref hR), (1, .int x1)] := hl
  have ck0 : (0 : Int32).toInt = 0 := by decide
  have ck1 : (1 : Int32).toInt = 1 := by decide
  refine lv_aload_n hx hb dX2_isWord_0 rfl (lv_at hl 0 rfl) ?_
  refine va_get (D := (dC, dI)) (ci := 2) (v := .int e_kind) (C := RX2) (T := TX2) (N := 11) hx hb hts hi2 hown hK hP 0 rfl rfl 4 (by decide) (hts _ (ow_m (k := 0) rfl)) (fun _ h9 => h9) rfl dX2_isWord_1 ?_
  refine lv_iconst (v := 1) hx hb dX2_isWord_4 (by decide) ?_
  refine lv_icmp_ne (tgt := 20) hx hb dX2_isWord_5 (by decide) (fun c52244 => ?_) (fun c52244 => ?_)
  · have c52244 := i_ne (a := e_kind.toInt) (b := 1) c52244 rfl (by decide)
    refine lv_iconst (v := 0) hx hb dX2_isWord_20 (by decide) ?_
    have w52245 : 0 ≤ (0 : Int32).toInt := by first | omega | assumption | rfl | (intros; rfl)
    have w52246 : (0 : Int32).toInt ≤ 1 := by first | omega | assumption | rfl | (intros; rfl)
    exact W.zret (v := 0) hx hb hr (by decide) (fun t ht hW => ⟨⟨0, (), rfl, ⟨w52245, w52246⟩, cE.of ht hP hD [0] (by decide) rfl⟩, hS.F ht⟩) hS.2.2 dX2_isWord_21
  · have c52244 := i_eq (a := e_kind.toInt) (b := 1) c52244 rfl (by decide)
    refine lv_aload_n hx hb dX2_isWord_8 rfl (lv_at hl 0 rfl) ?_
    refine va_get (D := (dC, dI)) (ci := 2) (v := .int e_number) (C := RX2) (T := TX2) (N := 11) hx hb hts hi2 hown hK hP 0 rfl rfl 6 (by decide) (hts _ (ow_m (k := 1) rfl)) (fun _ h9 => h9) rfl dX2_isWord_9 ?_
    refine lv_iload_n hx hb dX2_isWord_12 rfl (lv_at hl 1 rfl) ?_
    refine lv_icmp_ne (tgt := 20) hx hb dX2_isWord_13 (by decide) (fun c52247 => ?_) (fun c52247 => ?_)
    · have c52247 := i_ne (a := e_number.toInt) (b := x1.toInt) c52247 rfl rfl
      refine lv_iconst (v := 0) hx hb dX2_isWord_20 (by decide) ?_
      have w52248 : 0 ≤ (0 : Int32).toInt := by first | omega | assumption | rfl | (intros; rfl)
      have w52249 : (0 : Int32).toInt ≤ 1 := by first | omega | assumption | rfl | (intros; rfl)
      exact W.zret (v := 0) hx hb hr (by decide) (fun t ht hW => ⟨⟨0, (), rfl, ⟨w52248, w52249⟩, cE.of ht hP hD [0] (by decide) rfl⟩, hS.F ht⟩) hS.2.2 dX2_isWord_21
    · have c52247 := i_eq (a := e_number.toInt) (b := x1.toInt) c52247 rfl rfl
      refine lv_iconst (v := 1) hx hb dX2_isWord_16 (by decide) ?_
      refine lv_goto (tgt := 21) hx hb dX2_isWord_17 (by decide) ?_
      have w52250 : 0 ≤ (1 : Int32).toInt := by first | omega | assumption | rfl | (intros; rfl)
      have w52251 : (1 : Int32).toInt ≤ 1 := by first | omega | assumption | rfl | (intros; rfl)
      exact W.zret (v := 1) hx hb hr (by decide) (fun t ht hW => ⟨⟨1, (), rfl, ⟨w52250, w52251⟩, cE.of ht hP hD [0] (by decide) rfl⟩, hS.F ht⟩) hS.2.2 dX2_isWord_21
def wo_k_Re_isSign : List Cond := [.fieldLink RX2 53 "ReplicaChain$Reader" "kind" "I", .fieldLink RX2 62 "ReplicaChain$Reader" "number" "I"]
def wq_k_Re_isSign : List Cond := .code yX2_isSign cX2_isSign 2 (some .boolean) :: (wo_k_Re_isSign ++ (wsX20 ++ []))
theorem gd_k_Re_isSign : Gd wq_k_Re_isSign := gd_c (gd_a (gd_o (by decide +kernel)) (gd_a gd_u gd_0))
abbrev wc_k_Re_isSign (cyB cyI cyJ cyZ cyO : ClassId) (hR : Nat) (ed : Nat → Nat) (e_length : Int32) (e_at : Int32) (e_kind : Int32) (e_start : Int32) (e_number : Int32) (e_told : Int32) (e_faultKind : Int32) (e_faultPlace : Int32) (e_name : Int64) (x1 : Int32) (hp : Nat) : va_W := [(hR, .inr (2, [.ref (ed 0), .int e_length, .int e_at, .ref hp, .int e_kind, .int e_start, .int e_number, .long e_name, .int e_told, .int e_faultKind, .int e_faultPlace]))]
set_option maxHeartbeats 4000000 in
set_option maxRecDepth 100000 in
theorem k_Re_isSign (l : Launch) (dC : Nat → ClassId) (dI : Nat → Nat → Nat) (cyB cyI cyJ cyZ cyO : ClassId) (hR : Nat) (ed : Nat → Nat) (e_length : Int32) (e_at : Int32) (e_kind : Int32) (e_start : Int32) (e_number : Int32) (e_told : Int32) (e_faultKind : Int32) (e_faultPlace : Int32) (e_name : Int64) (x1 : Int32) (hp : Nat) (sz : Nat) (l_e_length : 0 ≤ e_length.toInt) (u_e_length : e_length.toInt ≤ 1600) (l_e_at : 0 ≤ e_at.toInt) (u_e_at : e_at.toInt ≤ 1600) (l_e_kind : 0 ≤ e_kind.toInt) (u_e_kind : e_kind.toInt ≤ 5) (l_e_start : 0 ≤ e_start.toInt) (u_e_start : e_start.toInt ≤ 1600) : Met l yX2_isSign wq_k_Re_isSign ({ frames := 0, cells := 0, slots := 0, locals := 0 }) (va_Pc [.ref hR, .int x1] (cB (dC, dI) (kT cyB cyI cyJ cyZ cyO) (wc_k_Re_isSign cyB cyI cyJ cyZ cyO hR ed e_length e_at e_kind e_start e_number e_told e_faultKind e_faultPlace e_name x1 hp) sz)) (va_Qi (fun (r : Int32) (u : Unit) => (0 ≤ r.toInt) ∧ (r.toInt ≤ 1)) (fun (u : Unit) t => cE (dC, dI) (va_A (wc_k_Re_isSign cyB cyI cyJ cyZ cyO hR ed e_length e_at e_kind e_start e_number e_told e_faultKind e_faultPlace e_name x1 hp) sz) ([(hR, .inr (2, [.ref (ed 0), .int e_length, .int e_at, .ref hp, .int e_kind, .int e_start, .int e_number, .long e_name, .int e_told, .int e_faultKind, .int e_faultPlace]))]) t.heap) (va_A (wc_k_Re_isSign cyB cyI cyJ cyZ cyO hR ed e_length e_at e_kind e_start e_number e_told e_faultKind e_faultPlace e_name x1 hp) sz)) 0 0 (va_A (wc_k_Re_isSign cyB cyI cyJ cyZ cyO hR ed e_length e_at e_kind e_start e_number e_told e_faultKind e_faultPlace e_name x1 hp) sz) := by
  refine Met.ofW (cc := cX2_isSign) (maxL := 2) (ret := (some .boolean)) (by decide) rfl ?_
  intro p e s m args below meth c s₁ B hml hv
  obtain ⟨rfl, hsz, hP, hKN, hD0⟩ := hv
  have hx := B.exec
  have hb := B.bytes
  have hr := B.returns
  have hts := atoms_spec (ws := wq_k_Re_isSign) B.pre
  have hown : s.vm.findClass RX2 = some m.cls := findClass_of_methodNamed B.named
  have hlocks := B.notSynchronized
  have hK := hKN.1
  have hfix : CallFix p m c cX2_isSign 2 s [.ref hR, .int x1].toArray wq_k_Re_isSign RX2 := ⟨hx, hb, hml, hown, hts⟩
  have hi2 : ∀ w ∈ wsX20, w ∈ wq_k_Re_isSign := (sb_c sb_l)
  subst hsz
  have hD := hD0.self (sz := s.heap.size)
  generalize hAe : va_A (wc_k_Re_isSign cyB cyI cyJ cyZ cyO hR ed e_length e_at e_kind e_start e_number e_told e_faultKind e_faultPlace e_name x1 hp) s.heap.size = A at hD ⊢
  have hA : ∀ q : Nat, s.heap.size ≤ q → A q := fun q h => by rw [← hAe]; exact Or.inr h
  have hS : va_S A s.heap s.heap [] := va_S.rf
  have hl := lv_entry ([.ref hR, .int x1]) (n := 2) (Nat.le_of_ble_eq_true rfl)
  rw [lg_entry_eq]
  generalize (lg_sl ([.ref hR, .int x1]) ++ List.replicate (2 - (lg_sl ([.ref hR, .int x1])).length) Slot.unset).toArray = ls at hl ⊢
  have hl : lv_has ls 2 [(0, .ref hR), (1, .int x1)] := hl
  have ck0 : (0 : Int32).toInt = 0 := by decide
  have ck1 : (1 : Int32).toInt = 1 := by decide
  refine lv_aload_n hx hb dX2_isSign_0 rfl (lv_at hl 0 rfl) ?_
  refine va_get (D := (dC, dI)) (ci := 2) (v := .int e_kind) (C := RX2) (T := TX2) (N := 11) hx hb hts hi2 hown hK hP 0 rfl rfl 4 (by decide) (hts _ (ow_m (k := 0) rfl)) (fun _ h9 => h9) rfl dX2_isSign_1 ?_
  refine lv_iconst (v := 4) hx hb dX2_isSign_4 (by decide) ?_
  refine lv_icmp_ne (tgt := 20) hx hb dX2_isSign_5 (by decide) (fun c52256 => ?_) (fun c52256 => ?_)
  · have c52256 := i_ne (a := e_kind.toInt) (b := 4) c52256 rfl (by decide)
    refine lv_iconst (v := 0) hx hb dX2_isSign_20 (by decide) ?_
    have w52257 : 0 ≤ (0 : Int32).toInt := by first | omega | assumption | rfl | (intros; rfl)
    have w52258 : (0 : Int32).toInt ≤ 1 := by first | omega | assumption | rfl | (intros; rfl)
    exact W.zret (v := 0) hx hb hr (by decide) (fun t ht hW => ⟨⟨0, (), rfl, ⟨w52257, w52258⟩, cE.of ht hP hD [0] (by decide) rfl⟩, hS.F ht⟩) hS.2.2 dX2_isSign_21
  · have c52256 := i_eq (a := e_kind.toInt) (b := 4) c52256 rfl (by decide)
    refine lv_aload_n hx hb dX2_isSign_8 rfl (lv_at hl 0 rfl) ?_
    refine va_get (D := (dC, dI)) (ci := 2) (v := .int e_number) (C := RX2) (T := TX2) (N := 11) hx hb hts hi2 hown hK hP 0 rfl rfl 6 (by decide) (hts _ (ow_m (k := 1) rfl)) (fun _ h9 => h9) rfl dX2_isSign_9 ?_
    refine lv_iload_n hx hb dX2_isSign_12 rfl (lv_at hl 1 rfl) ?_
    refine lv_icmp_ne (tgt := 20) hx hb dX2_isSign_13 (by decide) (fun c52259 => ?_) (fun c52259 => ?_)
    · have c52259 := i_ne (a := e_number.toInt) (b := x1.toInt) c52259 rfl rfl
      refine lv_iconst (v := 0) hx hb dX2_isSign_20 (by decide) ?_
      have w52260 : 0 ≤ (0 : Int32).toInt := by first | omega | assumption | rfl | (intros; rfl)
      have w52261 : (0 : Int32).toInt ≤ 1 := by first | omega | assumption | rfl | (intros; rfl)
      exact W.zret (v := 0) hx hb hr (by decide) (fun t ht hW => ⟨⟨0, (), rfl, ⟨w52260, w52261⟩, cE.of ht hP hD [0] (by decide) rfl⟩, hS.F ht⟩) hS.2.2 dX2_isSign_21
    · have c52259 := i_eq (a := e_number.toInt) (b := x1.toInt) c52259 rfl rfl
      refine lv_iconst (v := 1) hx hb dX2_isSign_16 (by decide) ?_
      refine lv_goto (tgt := 21) hx hb dX2_isSign_17 (by decide) ?_
      have w52262 : 0 ≤ (1 : Int32).toInt := by first | omega | assumption | rfl | (intros; rfl)
      have w52263 : (1 : Int32).toInt ≤ 1 := by first | omega | assumption | rfl | (intros; rfl)
      exact W.zret (v := 1) hx hb hr (by decide) (fun t ht hW => ⟨⟨1, (), rfl, ⟨w52262, w52263⟩, cE.of ht hP hD [0] (by decide) rfl⟩, hS.F ht⟩) hS.2.2 dX2_isSign_21
def wo_k_Re_isSpelt : List Cond := [.fieldLink RX2 59 "ReplicaChain$Reader" "start" "I", .fieldLink RX2 32 "ReplicaChain$Reader" "at" "I", .methodLink RX2 193 yJ0_charAt_5068e, .instanceMethod yJ0_charAt_5068e, .selects RJ0 yJ0_charAt_5068e yJ0_charAt_5068e, .initialized RJ0, .methodLink RX2 163 yX2_byteAt, .instanceMethod yX2_byteAt, .selects RX2 yX2_byteAt yX2_byteAt, .initialized RX2]
def wq_k_Re_isSpelt : List Cond := .code yX2_isSpelt cX2_isSpelt 4 (some .boolean) :: (wo_k_Re_isSpelt ++ (wq_j_charAt ++ (wq_k_Re_byteAt ++ (wsX20 ++ []))))
theorem gd_k_Re_isSpelt : Gd wq_k_Re_isSpelt := gd_c (gd_a (gd_o (by decide +kernel)) (gd_a gd_j_charAt (gd_a gd_k_Re_byteAt (gd_a gd_u gd_0))))
abbrev wc_k_Re_isSpelt (cyB cyI cyJ cyZ cyO : ClassId) (hR : Nat) (ed : Nat → Nat) (e_text : Nat → Int32) (e_length : Int32) (e_at : Int32) (e_kind : Int32) (e_start : Int32) (e_number : Int32) (e_told : Int32) (e_faultKind : Int32) (e_faultPlace : Int32) (e_name : Int64) (x1 : Int32) (hp : Nat) : va_W := [(hR, .inr (2, [.ref (ed 0), .int e_length, .int e_at, .ref hp, .int e_kind, .int e_start, .int e_number, .long e_name, .int e_told, .int e_faultKind, .int e_faultPlace])), (ed 0, .inl (cyB, 1600, .inl e_text))]
set_option maxHeartbeats 4000000 in
set_option maxRecDepth 100000 in
theorem k_Re_isSpelt (l : Launch) (dC : Nat → ClassId) (dI : Nat → Nat → Nat) (cyB cyI cyJ cyZ cyO : ClassId) (adK adV : Nat → Nat) (hR : Nat) (ed : Nat → Nat) (e_text : Nat → Int32) (e_length : Int32) (e_at : Int32) (e_kind : Int32) (e_start : Int32) (e_number : Int32) (e_told : Int32) (e_faultKind : Int32) (e_faultPlace : Int32) (e_name : Int64) (x1 : Int32) (hp : Nat) (sz : Nat) (l_e_length : 0 ≤ e_length.toInt) (u_e_length : e_length.toInt ≤ 1600) (l_e_at : 0 ≤ e_at.toInt) (u_e_at : e_at.toInt ≤ 1600) (l_e_kind : 0 ≤ e_kind.toInt) (u_e_kind : e_kind.toInt ≤ 5) (l_e_start : 0 ≤ e_start.toInt) (u_e_start : e_start.toInt ≤ 1600) (l_x1 : 0 ≤ x1.toInt) (u_x1 : x1.toInt ≤ 15) : Met l yX2_isSpelt wq_k_Re_isSpelt ({ frames := 4, cells := 0, slots := 0, locals := 85 }) (va_Pc [.ref hR, .int x1] (cBZ (dC, dI) (kT cyB cyI cyJ cyZ cyO) adK adV (wc_k_Re_isSpelt cyB cyI cyJ cyZ cyO hR ed e_text e_length e_at e_kind e_start e_number e_told e_faultKind e_faultPlace e_name x1 hp) sz)) (va_Qi (fun (r : Int32) (u : Unit) => (0 ≤ r.toInt) ∧ (r.toInt ≤ 1)) (fun (u : Unit) t => cE (dC, dI) (va_A (wc_k_Re_isSpelt cyB cyI cyJ cyZ cyO hR ed e_text e_length e_at e_kind e_start e_number e_told e_faultKind e_faultPlace e_name x1 hp) sz) ([(hR, .inr (2, [.ref (ed 0), .int e_length, .int e_at, .ref hp, .int e_kind, .int e_start, .int e_number, .long e_name, .int e_told, .int e_faultKind, .int e_faultPlace])), (ed 0, .inl (cyB, 1600, .inl e_text))]) t.heap) (va_A (wc_k_Re_isSpelt cyB cyI cyJ cyZ cyO hR ed e_text e_length e_at e_kind e_start e_number e_told e_faultKind e_faultPlace e_name x1 hp) sz)) 0 0 (va_A (wc_k_Re_isSpelt cyB cyI cyJ cyZ cyO hR ed e_text e_length e_at e_kind e_start e_number e_told e_faultKind e_faultPlace e_name x1 hp) sz) := by
  refine Met.ofW (cc := cX2_isSpelt) (maxL := 4) (ret := (some .boolean)) (by decide) rfl ?_
  intro p e s m args below meth c s₁ B hml hv
  obtain ⟨rfl, ⟨hsz, hP, hKN, hD0⟩, hZ⟩ := hv
  have hx := B.exec
  have hb := B.bytes
  have hr := B.returns
  have hts := atoms_spec (ws := wq_k_Re_isSpelt) B.pre
  have hown : s.vm.findClass RX2 = some m.cls := findClass_of_methodNamed B.named
  have hlocks := B.notSynchronized
  have hK := hKN.1
  have hfix : CallFix p m c cX2_isSpelt 4 s [.ref hR, .int x1].toArray wq_k_Re_isSpelt RX2 := ⟨hx, hb, hml, hown, hts⟩
  have hi2 : ∀ w ∈ wsX20, w ∈ wq_k_Re_isSpelt := (sb_c (sb_r (sb_r sb_l)))
  subst hsz
  have hD := hD0.self (sz := s.heap.size)
  generalize hAe : va_A (wc_k_Re_isSpelt cyB cyI cyJ cyZ cyO hR ed e_text e_length e_at e_kind e_start e_number e_told e_faultKind e_faultPlace e_name x1 hp) s.heap.size = A at hD hZ ⊢
  have hA : ∀ q : Nat, s.heap.size ≤ q → A q := fun q h => by rw [← hAe]; exact Or.inr h
  have hS : va_S A s.heap s.heap [] := va_S.rf
  have hl := lv_entry ([.ref hR, .int x1]) (n := 4) (Nat.le_of_ble_eq_true rfl)
  rw [lg_entry_eq]
  generalize (lg_sl ([.ref hR, .int x1]) ++ List.replicate (4 - (lg_sl ([.ref hR, .int x1])).length) Slot.unset).toArray = ls at hl ⊢
  have hl : lv_has ls 4 [(0, .ref hR), (1, .int x1)] := hl
  have ck0 : (0 : Int32).toInt = 0 := by decide
  have ck1 : (1 : Int32).toInt = 1 := by decide
  refine lv_iconst (v := 0) hx hb dX2_isSpelt_0 (by decide) ?_
  refine lv_istore_n (lv' := [(2, .int 0), (0, .ref hR), (1, .int x1)]) hx hb dX2_isSpelt_1 rfl hl (by decide) rfl (fun ls hl => ?_)
  refine w_gen (fun H locs ls hP hS hl => ?_) hP hS hl
  obtain ⟨v52570, hl2, hP2, hD2, b52571, b52572⟩ : ∃ (v52570 : Int32), lv_has ls 4 [(2, .int v52570), (0, .ref hR), (1, .int x1)] ∧ va_P (dC, dI) vwCl [(hR, .inr (2, [.ref (ed 0), .int e_length, .int e_at, .ref hp, .int e_kind, .int e_start, .int e_number, .long e_name, .int e_told, .int e_faultKind, .int e_faultPlace])), (ed 0, .inl (cyB, 1600, .inl e_text))] H ∧ va_D A [(hR, .inr (2, [.ref (ed 0), .int e_length, .int e_at, .ref hp, .int e_kind, .int e_start, .int e_number, .long e_name, .int e_told, .int e_faultKind, .int e_faultPlace])), (ed 0, .inl (cyB, 1600, .inl e_text))] ∧ (0 ≤ v52570.toInt) ∧ (v52570.toInt ≤ 8) := ⟨(0 : Int32), hl, hP, hD, by first | assumption | omega, by first | assumption | omega⟩
  clear hP hl
  have hP := hP2
  have hD := hD2
  have hl := hl2
  clear hP2 hD2 hl2
  obtain ⟨n52573, hn52573⟩ : ∃ n : Nat, 8 - v52570.toInt < (n : Int) := ⟨(8 - v52570.toInt).toNat + 1, by omega⟩
  induction n52573 generalizing v52570 H locs ls with
  | zero => exfalso; omega
  | succ n52573 ih52574 =>
    refine lv_iload_n hx hb dX2_isSpelt_2 rfl (lv_at hl 0 rfl) ?_
    refine lv_bipush (v := 8) hx hb dX2_isSpelt_3 (by decide) ?_
    refine lv_icmp_ge (tgt := 60) hx hb dX2_isSpelt_5 (by decide) (fun c52575 => ?_) (fun c52575 => ?_)
    · have c52575 := i_le (a := 8) (b := v52570.toInt) c52575 (by decide) rfl
      refine lv_iconst (v := 1) hx hb dX2_isSpelt_60 (by decide) ?_
      have w52576 : 0 ≤ (1 : Int32).toInt := by first | omega | assumption | rfl | (intros; rfl)
      have w52577 : (1 : Int32).toInt ≤ 1 := by first | omega | assumption | rfl | (intros; rfl)
      exact W.zret (v := 1) hx hb hr (by decide) (fun t ht hW => ⟨⟨1, (), rfl, ⟨w52576, w52577⟩, cE.of ht hP hD [0, 1] (by decide) rfl⟩, hS.F ht⟩) hS.2.2 dX2_isSpelt_61
    · have c52575 := i_nle (a := 8) (b := v52570.toInt) c52575 (by decide) rfl
      refine lv_aload_n hx hb dX2_isSpelt_8 rfl (lv_at hl 1 rfl) ?_
      refine va_get (D := (dC, dI)) (ci := 2) (v := .int e_start) (C := RX2) (T := TX2) (N := 11) hx hb hts hi2 hown hK hP 0 rfl rfl 5 (by decide) (hts _ (ow_m (k := 0) rfl)) (fun _ h9 => h9) rfl dX2_isSpelt_9 ?_
      refine lv_iload_n hx hb dX2_isSpelt_12 rfl (lv_at hl 0 rfl) ?_
      refine lv_iadd hx hb dX2_isSpelt_13 ?_
      refine lv_topi (fun z52578 ez52578 => ?_)
      have tz52578 := ti_add (a := e_start.toInt) (b := v52570.toInt) ez52578 rfl rfl (by omega) (by omega)
      refine lv_aload_n hx hb dX2_isSpelt_14 rfl (lv_at hl 1 rfl) ?_
      refine va_get (D := (dC, dI)) (ci := 2) (v := .int e_at) (C := RX2) (T := TX2) (N := 11) hx hb hts hi2 hown hK hP 0 rfl rfl 2 (by decide) (hts _ (ow_m (k := 1) rfl)) (fun _ h9 => h9) rfl dX2_isSpelt_15 ?_
      refine lv_icmp_ge (tgt := 34) hx hb dX2_isSpelt_18 (by decide) (fun c52579 => ?_) (fun c52579 => ?_)
      · have c52579 := i_le (a := e_at.toInt) (b := z52578.toInt) c52579 rfl rfl
        refine lv_bipush (v := 32) hx hb dX2_isSpelt_34 (by decide) ?_
        refine lv_istore_n (lv' := [(3, .int 32), (2, .int v52570), (0, .ref hR), (1, .int x1)]) hx hb dX2_isSpelt_36 rfl hl (by decide) rfl (fun ls hl => ?_)
        refine va_ldcS hx hb hown hZ.2.2.2.1 dX2_isSpelt_37 ?_
        refine lv_iload_n hx hb dX2_isSpelt_39 rfl (lv_at hl 3 rfl) ?_
        refine lv_bipush (v := 8) hx hb dX2_isSpelt_40 (by decide) ?_
        refine lv_imul hx hb dX2_isSpelt_42 ?_
        refine lv_topi (fun z52580 ez52580 => ?_)
        have tz52580 := ti_mul (a := x1.toInt) (b := 8) ez52580 rfl (by decide) (by omega) (by omega)
        refine lv_iload_n hx hb dX2_isSpelt_43 rfl (lv_at hl 1 rfl) ?_
        refine lv_iadd hx hb dX2_isSpelt_44 ?_
        refine lv_topi (fun z52581 ez52581 => ?_)
        have tz52581 := ti_add (a := z52580.toInt) (b := v52570.toInt) ez52581 rfl rfl (by omega) (by omega)
        refine gf_i (wr := [(hR, .inr (2, [.ref (ed 0), .int e_length, .int e_at, .ref hp, .int e_kind, .int e_start, .int e_number, .long e_name, .int e_told, .int e_faultKind, .int e_faultPlace])), (ed 0, .inl (cyB, 1600, .inl e_text))]) (va_runV (As := [.int z52581]) (rest := []) hfix (j_charAt l dC dI cyB cyI cyJ cyZ cyO adK adV z52581 _ (by first | omega | assumption) (by first | omega | assumption)) (cwV 1 hts (gi_V (ow_m (k := 2) rfl) (ow_m (k := 3) rfl) (ow_m (k := 4) rfl) (ow_m (k := 5) rfl) (sb_c sb_l) gd_j_charAt) rfl rfl rfl (by decide +kernel) ⟨Nat.le_of_ble_eq_true rfl, Nat.le_of_ble_eq_true rfl⟩) (g_preVS hZ hS hA hKN hP hD 0 (by decide)) rfl rfl hl.1 rfl (lv_room (Nat.le_of_ble_eq_true rfl)) dX2_isSpelt_45 ⟨Nat.le_of_ble_eq_true rfl, Nat.le_of_ble_eq_true rfl⟩) hP hD hS hA [] [0, 1] rfl rfl (by decide) (by decide) (fun r52582 u52583 H locs qu52583 hP hD hS => ?_)
        have hP : va_P (dC, dI) vwCl [(hR, .inr (2, [.ref (ed 0), .int e_length, .int e_at, .ref hp, .int e_kind, .int e_start, .int e_number, .long e_name, .int e_told, .int e_faultKind, .int e_faultPlace])), (ed 0, .inl (cyB, 1600, .inl e_text))] H := hP
        have hD : va_D A [(hR, .inr (2, [.ref (ed 0), .int e_length, .int e_at, .ref hp, .int e_kind, .int e_start, .int e_number, .long e_name, .int e_told, .int e_faultKind, .int e_faultPlace])), (ed 0, .inl (cyB, 1600, .inl e_text))] := hD
        obtain ⟨b52584, b52585⟩ := qu52583
        refine lv_iload_n hx hb dX2_isSpelt_48 rfl (lv_at hl 0 rfl) ?_
        refine lv_icmp_eq (tgt := 54) hx hb dX2_isSpelt_49 (by decide) (fun c52586 => ?_) (fun c52586 => ?_)
        · have c52586 := i_eq (a := r52582.toInt) (b := 32) c52586 rfl (by decide)
          obtain ⟨z52587, ez52587⟩ : ∃ y : Int32, y = v52570 + 1 := ⟨_, rfl⟩
          have tz52587 := ti_add (a := v52570.toInt) (b := 1) ez52587 rfl (by decide) (by omega) (by omega)
          refine lv_iinc (v := z52587) (lv' := [(2, .int z52587), (3, .int 32), (0, .ref hR), (1, .int x1)]) hx hb dX2_isSpelt_54 hl (k := 1) rfl (by rw [ez52587]; rfl) (by decide) rfl (fun ls hl => ?_)
          refine lv_goto (tgt := 2) hx hb dX2_isSpelt_57 (by decide) ?_
          have hl := lv_sub (l' := [(2, .int z52587), (0, .ref hR), (1, .int x1)]) hl [0, 2, 3] rfl
          apply ih52574 (v52570 := z52587) (H := H) (locs := locs) (ls := ls) <;> first | assumption | omega
        · have c52586 := i_ne (a := r52582.toInt) (b := 32) c52586 rfl (by decide)
          refine lv_iconst (v := 0) hx hb dX2_isSpelt_52 (by decide) ?_
          have w52588 : 0 ≤ (0 : Int32).toInt := by first | omega | assumption | rfl | (intros; rfl)
          have w52589 : (0 : Int32).toInt ≤ 1 := by first | omega | assumption | rfl | (intros; rfl)
          exact W.zret (v := 0) hx hb hr (by decide) (fun t ht hW => ⟨⟨0, (), rfl, ⟨w52588, w52589⟩, cE.of ht hP hD [0, 1] (by decide) rfl⟩, hS.F ht⟩) hS.2.2 dX2_isSpelt_53
      · have c52579 := i_nle (a := e_at.toInt) (b := z52578.toInt) c52579 rfl rfl
        refine lv_aload_n hx hb dX2_isSpelt_21 rfl (lv_at hl 1 rfl) ?_
        refine lv_aload_n hx hb dX2_isSpelt_22 rfl (lv_at hl 1 rfl) ?_
        refine va_get (D := (dC, dI)) (ci := 2) (v := .int e_start) (C := RX2) (T := TX2) (N := 11) hx hb hts hi2 hown hK hP 0 rfl rfl 5 (by decide) (hts _ (ow_m (k := 0) rfl)) (fun _ h9 => h9) rfl dX2_isSpelt_23 ?_
        refine lv_iload_n hx hb dX2_isSpelt_26 rfl (lv_at hl 0 rfl) ?_
        refine lv_iadd hx hb dX2_isSpelt_27 ?_
        refine lv_topi (fun z52590 ez52590 => ?_)
        have tz52590 := ti_add (a := e_start.toInt) (b := v52570.toInt) ez52590 rfl rfl (by omega) (by omega)
        refine gf_i (wr := []) (va_runV (As := [.int z52590]) (rest := []) hfix (k_Re_byteAt l dC dI cyB cyI cyJ cyZ cyO hR ed e_text e_length e_at e_kind e_start e_number e_told e_faultKind e_faultPlace e_name z52590 hp _ (by first | omega | assumption) (by first | omega | assumption) (by first | omega | assumption) (by first | omega | assumption) (by first | omega | assumption) (by first | omega | assumption) (by first | omega | assumption) (by first | omega | assumption)) (cwV 1 hts (gi_V (ow_m (k := 6) rfl) (ow_m (k := 7) rfl) (ow_m (k := 8) rfl) (ow_m (k := 9) rfl) (sb_c (sb_r sb_l)) gd_k_Re_byteAt) rfl rfl rfl (by decide +kernel) ⟨Nat.le_of_ble_eq_true rfl, Nat.le_of_ble_eq_true rfl⟩) (g_preV hKN hP hD [0, 1] rfl (by decide) 0 2 rfl rfl) rfl rfl hl.1 rfl (lv_room (Nat.le_of_ble_eq_true rfl)) dX2_isSpelt_28 ⟨Nat.le_of_ble_eq_true rfl, Nat.le_of_ble_eq_true rfl⟩) hP hD hS hA [0, 1] [] rfl rfl (by decide) (by decide) (fun r52591 u52592 H locs qu52592 hP hD hS => ?_)
        obtain ⟨b52593, b52594⟩ := qu52592
        have hP : va_P (dC, dI) vwCl [(hR, .inr (2, [.ref (ed 0), .int e_length, .int e_at, .ref hp, .int e_kind, .int e_start, .int e_number, .long e_name, .int e_told, .int e_faultKind, .int e_faultPlace])), (ed 0, .inl (cyB, 1600, .inl e_text))] H := hP
        have hD : va_D A [(hR, .inr (2, [.ref (ed 0), .int e_length, .int e_at, .ref hp, .int e_kind, .int e_start, .int e_number, .long e_name, .int e_told, .int e_faultKind, .int e_faultPlace])), (ed 0, .inl (cyB, 1600, .inl e_text))] := hD
        refine lv_goto (tgt := 36) hx hb dX2_isSpelt_31 (by decide) ?_
        refine lv_istore_n (lv' := [(3, .int r52591), (2, .int v52570), (0, .ref hR), (1, .int x1)]) hx hb dX2_isSpelt_36 rfl hl (by decide) rfl (fun ls hl => ?_)
        refine va_ldcS hx hb hown hZ.2.2.2.1 dX2_isSpelt_37 ?_
        refine lv_iload_n hx hb dX2_isSpelt_39 rfl (lv_at hl 3 rfl) ?_
        refine lv_bipush (v := 8) hx hb dX2_isSpelt_40 (by decide) ?_
        refine lv_imul hx hb dX2_isSpelt_42 ?_
        refine lv_topi (fun z52595 ez52595 => ?_)
        have tz52595 := ti_mul (a := x1.toInt) (b := 8) ez52595 rfl (by decide) (by omega) (by omega)
        refine lv_iload_n hx hb dX2_isSpelt_43 rfl (lv_at hl 1 rfl) ?_
        refine lv_iadd hx hb dX2_isSpelt_44 ?_
        refine lv_topi (fun z52596 ez52596 => ?_)
        have tz52596 := ti_add (a := z52595.toInt) (b := v52570.toInt) ez52596 rfl rfl (by omega) (by omega)
        refine gf_i (wr := [(hR, .inr (2, [.ref (ed 0), .int e_length, .int e_at, .ref hp, .int e_kind, .int e_start, .int e_number, .long e_name, .int e_told, .int e_faultKind, .int e_faultPlace])), (ed 0, .inl (cyB, 1600, .inl e_text))]) (va_runV (As := [.int z52596]) (rest := []) hfix (j_charAt l dC dI cyB cyI cyJ cyZ cyO adK adV z52596 _ (by first | omega | assumption) (by first | omega | assumption)) (cwV 1 hts (gi_V (ow_m (k := 2) rfl) (ow_m (k := 3) rfl) (ow_m (k := 4) rfl) (ow_m (k := 5) rfl) (sb_c sb_l) gd_j_charAt) rfl rfl rfl (by decide +kernel) ⟨Nat.le_of_ble_eq_true rfl, Nat.le_of_ble_eq_true rfl⟩) (g_preVS hZ hS hA hKN hP hD 0 (by decide)) rfl rfl hl.1 rfl (lv_room (Nat.le_of_ble_eq_true rfl)) dX2_isSpelt_45 ⟨Nat.le_of_ble_eq_true rfl, Nat.le_of_ble_eq_true rfl⟩) hP hD hS hA [] [0, 1] rfl rfl (by decide) (by decide) (fun r52597 u52598 H locs qu52598 hP hD hS => ?_)
        have hP : va_P (dC, dI) vwCl [(hR, .inr (2, [.ref (ed 0), .int e_length, .int e_at, .ref hp, .int e_kind, .int e_start, .int e_number, .long e_name, .int e_told, .int e_faultKind, .int e_faultPlace])), (ed 0, .inl (cyB, 1600, .inl e_text))] H := hP
        have hD : va_D A [(hR, .inr (2, [.ref (ed 0), .int e_length, .int e_at, .ref hp, .int e_kind, .int e_start, .int e_number, .long e_name, .int e_told, .int e_faultKind, .int e_faultPlace])), (ed 0, .inl (cyB, 1600, .inl e_text))] := hD
        obtain ⟨b52599, b52600⟩ := qu52598
        refine lv_iload_n hx hb dX2_isSpelt_48 rfl (lv_at hl 0 rfl) ?_
        refine lv_icmp_eq (tgt := 54) hx hb dX2_isSpelt_49 (by decide) (fun c52601 => ?_) (fun c52601 => ?_)
        · have c52601 := i_eq (a := r52597.toInt) (b := r52591.toInt) c52601 rfl rfl
          obtain ⟨z52602, ez52602⟩ : ∃ y : Int32, y = v52570 + 1 := ⟨_, rfl⟩
          have tz52602 := ti_add (a := v52570.toInt) (b := 1) ez52602 rfl (by decide) (by omega) (by omega)
          refine lv_iinc (v := z52602) (lv' := [(2, .int z52602), (3, .int r52591), (0, .ref hR), (1, .int x1)]) hx hb dX2_isSpelt_54 hl (k := 1) rfl (by rw [ez52602]; rfl) (by decide) rfl (fun ls hl => ?_)
          refine lv_goto (tgt := 2) hx hb dX2_isSpelt_57 (by decide) ?_
          have hl := lv_sub (l' := [(2, .int z52602), (0, .ref hR), (1, .int x1)]) hl [0, 2, 3] rfl
          apply ih52574 (v52570 := z52602) (H := H) (locs := locs) (ls := ls) <;> first | assumption | omega
        · have c52601 := i_ne (a := r52597.toInt) (b := r52591.toInt) c52601 rfl rfl
          refine lv_iconst (v := 0) hx hb dX2_isSpelt_52 (by decide) ?_
          have w52603 : 0 ≤ (0 : Int32).toInt := by first | omega | assumption | rfl | (intros; rfl)
          have w52604 : (0 : Int32).toInt ≤ 1 := by first | omega | assumption | rfl | (intros; rfl)
          exact W.zret (v := 0) hx hb hr (by decide) (fun t ht hW => ⟨⟨0, (), rfl, ⟨w52603, w52604⟩, cE.of ht hP hD [0, 1] (by decide) rfl⟩, hS.F ht⟩) hS.2.2 dX2_isSpelt_53
def wo_k_Re_readLetters : List Cond := [.fieldLink RX2 106 "ReplicaChain$Reader" "name" "J", .fieldLink RX2 32 "ReplicaChain$Reader" "at" "I", .fieldLink RX2 29 "ReplicaChain$Reader" "length" "I", .fieldLink RX2 59 "ReplicaChain$Reader" "start" "I", .fieldLink RX2 53 "ReplicaChain$Reader" "kind" "I", .methodLink RX2 188 yX2_isSpelt, .instanceMethod yX2_isSpelt, .selects RX2 yX2_isSpelt yX2_isSpelt, .initialized RX2, .fieldLink RX2 62 "ReplicaChain$Reader" "number" "I", .methodLink RX2 167 yX2_isLetter, .instanceMethod yX2_isLetter, .selects RX2 yX2_isLetter yX2_isLetter, .constantLong RX2 186 (32), .methodLink RX2 163 yX2_byteAt, .instanceMethod yX2_byteAt, .selects RX2 yX2_byteAt yX2_byteAt]
def wq_k_Re_readLetters : List Cond := .code yX2_readLetters cX2_readLetters 2 none :: (wo_k_Re_readLetters ++ (wq_k_Re_isSpelt ++ (wq_k_Re_isLetter ++ (wq_k_Re_byteAt ++ (wsX20 ++ [])))))
theorem gd_k_Re_readLetters : Gd wq_k_Re_readLetters := gd_c (gd_a (gd_o (by decide +kernel)) (gd_a gd_k_Re_isSpelt (gd_a gd_k_Re_isLetter (gd_a gd_k_Re_byteAt (gd_a gd_u gd_0)))))
abbrev wc_k_Re_readLetters (cyB cyI cyJ cyZ cyO : ClassId) (hR : Nat) (ed : Nat → Nat) (e_text : Nat → Int32) (e_length : Int32) (e_at : Int32) (e_kind : Int32) (e_start : Int32) (e_number : Int32) (e_told : Int32) (e_faultKind : Int32) (e_faultPlace : Int32) (e_name : Int64) (hp : Nat) : va_W := [(hR, .inr (2, [.ref (ed 0), .int e_length, .int e_at, .ref hp, .int e_kind, .int e_start, .int e_number, .long e_name, .int e_told, .int e_faultKind, .int e_faultPlace])), (ed 0, .inl (cyB, 1600, .inl e_text))]
set_option maxHeartbeats 4000000 in
set_option maxRecDepth 100000 in
theorem k_Re_readLetters (l : Launch) (dC : Nat → ClassId) (dI : Nat → Nat → Nat) (cyB cyI cyJ cyZ cyO : ClassId) (adK adV : Nat → Nat) (hR : Nat) (ed : Nat → Nat) (e_text : Nat → Int32) (e_length : Int32) (e_at : Int32) (e_kind : Int32) (e_start : Int32) (e_number : Int32) (e_told : Int32) (e_faultKind : Int32) (e_faultPlace : Int32) (e_name : Int64) (hp : Nat) (sz : Nat) (l_e_length : 0 ≤ e_length.toInt) (u_e_length : e_length.toInt ≤ 1600) (l_e_at : 0 ≤ e_at.toInt) (u_e_at : e_at.toInt ≤ 1600) (l_e_kind : 0 ≤ e_kind.toInt) (u_e_kind : e_kind.toInt ≤ 5) (l_e_start : 0 ≤ e_start.toInt) (u_e_start : e_start.toInt ≤ 1600) : Met l yX2_readLetters wq_k_Re_readLetters ({ frames := 5, cells := 0, slots := 0, locals := 108 }) (va_Pc [.ref hR] (cBZ (dC, dI) (kT cyB cyI cyJ cyZ cyO) adK adV (wc_k_Re_readLetters cyB cyI cyJ cyZ cyO hR ed e_text e_length e_at e_kind e_start e_number e_told e_faultKind e_faultPlace e_name hp) sz)) (va_Qv (fun (u : ST4) => (0 ≤ (u.2.1 0).toInt) ∧ ((u.2.1 0).toInt ≤ 1600) ∧ (0 ≤ (u.2.1 1).toInt) ∧ ((u.2.1 1).toInt ≤ 5)) (fun (u : ST4) t => cE (dC, dI) (va_A (wc_k_Re_readLetters cyB cyI cyJ cyZ cyO hR ed e_text e_length e_at e_kind e_start e_number e_told e_faultKind e_faultPlace e_name hp) sz) ([(hR, .inr (2, [.ref (ed 0), .int e_length, .int (u.2.1 0), .ref hp, .int (u.2.1 1), .int e_start, .int (u.2.1 2), .long (u.2.2.1 0), .int e_told, .int e_faultKind, .int e_faultPlace])), (ed 0, .inl (cyB, 1600, .inl e_text))]) t.heap) (va_A (wc_k_Re_readLetters cyB cyI cyJ cyZ cyO hR ed e_text e_length e_at e_kind e_start e_number e_told e_faultKind e_faultPlace e_name hp) sz)) 0 0 (va_A (wc_k_Re_readLetters cyB cyI cyJ cyZ cyO hR ed e_text e_length e_at e_kind e_start e_number e_told e_faultKind e_faultPlace e_name hp) sz) := by
  refine Met.ofW (cc := cX2_readLetters) (maxL := 2) (ret := none) (by decide) rfl ?_
  intro p e s m args below meth c s₁ B hml hv
  obtain ⟨rfl, ⟨hsz, hP, hKN, hD0⟩, hZ⟩ := hv
  have hx := B.exec
  have hb := B.bytes
  have hr := B.returns
  have hts := atoms_spec (ws := wq_k_Re_readLetters) B.pre
  have hown : s.vm.findClass RX2 = some m.cls := findClass_of_methodNamed B.named
  have hlocks := B.notSynchronized
  have hK := hKN.1
  have hfix : CallFix p m c cX2_readLetters 2 s [.ref hR].toArray wq_k_Re_readLetters RX2 := ⟨hx, hb, hml, hown, hts⟩
  have hi2 : ∀ w ∈ wsX20, w ∈ wq_k_Re_readLetters := (sb_c (sb_r (sb_r (sb_r sb_l))))
  subst hsz
  have hD := hD0.self (sz := s.heap.size)
  generalize hAe : va_A (wc_k_Re_readLetters cyB cyI cyJ cyZ cyO hR ed e_text e_length e_at e_kind e_start e_number e_told e_faultKind e_faultPlace e_name hp) s.heap.size = A at hD hZ ⊢
  have hA : ∀ q : Nat, s.heap.size ≤ q → A q := fun q h => by rw [← hAe]; exact Or.inr h
  have hS : va_S A s.heap s.heap [] := va_S.rf
  have hl := lv_entry ([.ref hR]) (n := 2) (Nat.le_of_ble_eq_true rfl)
  rw [lg_entry_eq]
  generalize (lg_sl ([.ref hR]) ++ List.replicate (2 - (lg_sl ([.ref hR])).length) Slot.unset).toArray = ls at hl ⊢
  have hl : lv_has ls 2 [(0, .ref hR)] := hl
  have ck0 : (0 : Int32).toInt = 0 := by decide
  have ck1 : (1 : Int32).toInt = 1 := by decide
  have ck2 : (2 : Int32).toInt = 2 := by decide
  have ck5 : (5 : Int32).toInt = 5 := by decide
  refine lv_aload_n hx hb dX2_readLetters_0 rfl (lv_at hl 0 rfl) ?_
  refine lv_lconst (v := 0) hx hb dX2_readLetters_1 (by decide) ?_
  refine va_put (D := (dC, dI)) (ci := 2) (v := .long 0) (ty := .long) (C := RX2) (T := TX2) (N := 11) hx hb hts hi2 tyX2 tyX2_ok nmX2 hown hK hP hD hS 0 rfl rfl 7 (by decide) (hts _ (ow_m (k := 0) rfl)) (fun _ h9 => h9) rfl (by decide +kernel) rfl rfl (Nat.le_of_ble_eq_true rfl) dX2_readLetters_2 (fun H locs hP hD hS => ?_)
  have hP : va_P (dC, dI) vwCl [(hR, .inr (2, [.ref (ed 0), .int e_length, .int e_at, .ref hp, .int e_kind, .int e_start, .int e_number, .long 0, .int e_told, .int e_faultKind, .int e_faultPlace])), (ed 0, .inl (cyB, 1600, .inl e_text))] H := hP
  have hD : va_D A [(hR, .inr (2, [.ref (ed 0), .int e_length, .int e_at, .ref hp, .int e_kind, .int e_start, .int e_number, .long 0, .int e_told, .int e_faultKind, .int e_faultPlace])), (ed 0, .inl (cyB, 1600, .inl e_text))] := hD
  refine w_gen (fun H locs ls hP hS hl => ?_) hP hS hl
  obtain ⟨v53409, v53410, hl2, hP2, hD2, b53411, b53412⟩ : ∃ (v53409 : Int32) (v53410 : Int64), lv_has ls 2 [(0, .ref hR)] ∧ va_P (dC, dI) vwCl [(hR, .inr (2, [.ref (ed 0), .int e_length, .int v53409, .ref hp, .int e_kind, .int e_start, .int e_number, .long v53410, .int e_told, .int e_faultKind, .int e_faultPlace])), (ed 0, .inl (cyB, 1600, .inl e_text))] H ∧ va_D A [(hR, .inr (2, [.ref (ed 0), .int e_length, .int v53409, .ref hp, .int e_kind, .int e_start, .int e_number, .long v53410, .int e_told, .int e_faultKind, .int e_faultPlace])), (ed 0, .inl (cyB, 1600, .inl e_text))] ∧ (0 ≤ v53409.toInt) ∧ (v53409.toInt ≤ 1600) := ⟨e_at, 0, hl, hP, hD, by first | assumption | omega, by first | assumption | omega⟩
  clear hP hl
  have hP := hP2
  have hD := hD2
  have hl := hl2
  clear hP2 hD2 hl2
  obtain ⟨n53413, hn53413⟩ : ∃ n : Nat, max (e_length.toInt - v53409.toInt) 0 < (n : Int) := ⟨(max (e_length.toInt - v53409.toInt) 0).toNat + 1, by omega⟩
  induction n53413 generalizing v53409 v53410 H locs ls with
  | zero => exfalso; omega
  | succ n53413 ih53414 =>
    refine lv_aload_n hx hb dX2_readLetters_5 rfl (lv_at hl 0 rfl) ?_
    refine va_get (D := (dC, dI)) (ci := 2) (v := .int v53409) (C := RX2) (T := TX2) (N := 11) hx hb hts hi2 hown hK hP 0 rfl rfl 2 (by decide) (hts _ (ow_m (k := 1) rfl)) (fun _ h9 => h9) rfl dX2_readLetters_6 ?_
    refine lv_aload_n hx hb dX2_readLetters_9 rfl (lv_at hl 0 rfl) ?_
    refine va_get (D := (dC, dI)) (ci := 2) (v := .int e_length) (C := RX2) (T := TX2) (N := 11) hx hb hts hi2 hown hK hP 0 rfl rfl 1 (by decide) (hts _ (ow_m (k := 2) rfl)) (fun _ h9 => h9) rfl dX2_readLetters_10 ?_
    refine lv_icmp_ge (tgt := 67) hx hb dX2_readLetters_13 (by decide) (fun c53415 => ?_) (fun c53415 => ?_)
    · have c53415 := i_le (a := e_length.toInt) (b := v53409.toInt) c53415 rfl rfl
      refine lv_aload_n hx hb dX2_readLetters_67 rfl (lv_at hl 0 rfl) ?_
      refine va_get (D := (dC, dI)) (ci := 2) (v := .int v53409) (C := RX2) (T := TX2) (N := 11) hx hb hts hi2 hown hK hP 0 rfl rfl 2 (by decide) (hts _ (ow_m (k := 1) rfl)) (fun _ h9 => h9) rfl dX2_readLetters_68 ?_
      refine lv_aload_n hx hb dX2_readLetters_71 rfl (lv_at hl 0 rfl) ?_
      refine va_get (D := (dC, dI)) (ci := 2) (v := .int e_start) (C := RX2) (T := TX2) (N := 11) hx hb hts hi2 hown hK hP 0 rfl rfl 5 (by decide) (hts _ (ow_m (k := 3) rfl)) (fun _ h9 => h9) rfl dX2_readLetters_72 ?_
      refine lv_isub hx hb dX2_readLetters_75 ?_
      refine lv_topi (fun z53416 ez53416 => ?_)
      have tz53416 := ti_sub (a := v53409.toInt) (b := e_start.toInt) ez53416 rfl rfl (by omega) (by omega)
      refine lv_bipush (v := 8) hx hb dX2_readLetters_76 (by decide) ?_
      refine lv_icmp_le (tgt := 87) hx hb dX2_readLetters_78 (by decide) (fun c53417 => ?_) (fun c53417 => ?_)
      · have c53417 := i_le (a := z53416.toInt) (b := 8) c53417 rfl (by decide)
        refine lv_aload_n hx hb dX2_readLetters_87 rfl (lv_at hl 0 rfl) ?_
        refine lv_iconst (v := 2) hx hb dX2_readLetters_88 (by decide) ?_
        refine va_put (D := (dC, dI)) (ci := 2) (v := .int 2) (ty := .int) (C := RX2) (T := TX2) (N := 11) hx hb hts hi2 tyX2 tyX2_ok nmX2 hown hK hP hD hS 0 rfl rfl 4 (by decide) (hts _ (ow_m (k := 4) rfl)) (fun _ h9 => h9) rfl (by decide +kernel) rfl rfl (Nat.le_of_ble_eq_true rfl) dX2_readLetters_89 (fun H locs hP hD hS => ?_)
        have hP : va_P (dC, dI) vwCl [(hR, .inr (2, [.ref (ed 0), .int e_length, .int v53409, .ref hp, .int 2, .int e_start, .int e_number, .long v53410, .int e_told, .int e_faultKind, .int e_faultPlace])), (ed 0, .inl (cyB, 1600, .inl e_text))] H := hP
        have hD : va_D A [(hR, .inr (2, [.ref (ed 0), .int e_length, .int v53409, .ref hp, .int 2, .int e_start, .int e_number, .long v53410, .int e_told, .int e_faultKind, .int e_faultPlace])), (ed 0, .inl (cyB, 1600, .inl e_text))] := hD
        refine lv_iconst (v := 0) hx hb dX2_readLetters_92 (by decide) ?_
        refine lv_istore_n (lv' := [(1, .int 0), (0, .ref hR)]) hx hb dX2_readLetters_93 rfl hl (by decide) rfl (fun ls hl => ?_)
        refine w_gen (fun H locs ls hP hS hl => ?_) hP hS hl
        obtain ⟨v53418, v53419, v53420, hl2, hP2, hD2, b53421, b53422, b53423, b53424⟩ : ∃ (v53418 : Int32) (v53419 : Int32) (v53420 : Int32), lv_has ls 2 [(1, .int v53420), (0, .ref hR)] ∧ va_P (dC, dI) vwCl [(hR, .inr (2, [.ref (ed 0), .int e_length, .int v53409, .ref hp, .int v53418, .int e_start, .int v53419, .long v53410, .int e_told, .int e_faultKind, .int e_faultPlace])), (ed 0, .inl (cyB, 1600, .inl e_text))] H ∧ va_D A [(hR, .inr (2, [.ref (ed 0), .int e_length, .int v53409, .ref hp, .int v53418, .int e_start, .int v53419, .long v53410, .int e_told, .int e_faultKind, .int e_faultPlace])), (ed 0, .inl (cyB, 1600, .inl e_text))] ∧ (1 ≤ v53418.toInt) ∧ (v53418.toInt ≤ 2) ∧ (0 ≤ v53420.toInt) ∧ (v53420.toInt ≤ 16) := ⟨(2 : Int32), e_number, (0 : Int32), hl, hP, hD, by first | assumption | omega, by first | assumption | omega, by first | assumption | omega, by first | assumption | omega⟩
        clear hP hl
        have hP := hP2
        have hD := hD2
        have hl := hl2
        clear hP2 hD2 hl2
        obtain ⟨n53425, hn53425⟩ : ∃ n : Nat, 16 - v53420.toInt < (n : Int) := ⟨(16 - v53420.toInt).toNat + 1, by omega⟩
        induction n53425 generalizing v53418 v53419 v53420 H locs ls with
        | zero => exfalso; omega
        | succ n53425 ih53426 =>
          refine lv_iload_n hx hb dX2_readLetters_94 rfl (lv_at hl 0 rfl) ?_
          refine lv_bipush (v := 15) hx hb dX2_readLetters_95 (by decide) ?_
          refine lv_icmp_gt (tgt := 124) hx hb dX2_readLetters_97 (by decide) (fun c53427 => ?_) (fun c53427 => ?_)
          · have c53427 := i_lt (a := 15) (b := v53420.toInt) c53427 (by decide) rfl
            have w53428 : 0 ≤ v53409.toInt := by first | omega | assumption | rfl | (intros; rfl)
            have w53429 : v53409.toInt ≤ 1600 := by first | omega | assumption | rfl | (intros; rfl)
            have w53430 : 0 ≤ v53418.toInt := by first | omega | assumption | rfl | (intros; rfl)
            have w53431 : v53418.toInt ≤ 5 := by first | omega | assumption | rfl | (intros; rfl)
            exact W.vret hx hb hr (fun t ht hW => ⟨⟨((fun _ => fun _ => 0), (fun k => match k with | 0 => v53409 | 1 => v53418 | _ => v53419), (fun _ => v53410), (fun _ => fun _ => 0)), rfl, ⟨w53428, w53429, w53430, w53431⟩, cE.of ht hP hD [0, 1] (by decide) rfl⟩, hS.F ht⟩) hS.2.2 dX2_readLetters_124
          · have c53427 := i_nlt (a := 15) (b := v53420.toInt) c53427 (by decide) rfl
            refine lv_aload_n hx hb dX2_readLetters_100 rfl (lv_at hl 1 rfl) ?_
            refine lv_iload_n hx hb dX2_readLetters_101 rfl (lv_at hl 0 rfl) ?_
            refine gf_i (wr := []) (va_runV (As := [.int v53420]) (rest := []) hfix (k_Re_isSpelt l dC dI cyB cyI cyJ cyZ cyO adK adV hR ed e_text e_length v53409 v53418 e_start v53419 e_told e_faultKind e_faultPlace v53410 v53420 hp _ (by first | omega | assumption) (by first | omega | assumption) (by first | omega | assumption) (by first | omega | assumption) (by first | omega | assumption) (by first | omega | assumption) (by first | omega | assumption) (by first | omega | assumption) (by first | omega | assumption) (by first | omega | assumption)) (cwV 1 hts (gi_V (ow_m (k := 5) rfl) (ow_m (k := 6) rfl) (ow_m (k := 7) rfl) (ow_m (k := 8) rfl) (sb_c sb_l) gd_k_Re_isSpelt) rfl rfl rfl (by decide +kernel) ⟨Nat.le_of_ble_eq_true rfl, Nat.le_of_ble_eq_true rfl⟩) (g_preVZ hZ hS hA hKN hP hD [0, 1] rfl (by decide) 0 2 rfl rfl) rfl rfl hl.1 rfl (lv_room (Nat.le_of_ble_eq_true rfl)) dX2_readLetters_102 ⟨Nat.le_of_ble_eq_true rfl, Nat.le_of_ble_eq_true rfl⟩) hP hD hS hA [0, 1] [] rfl rfl (by decide) (by decide) (fun r53432 u53433 H locs qu53433 hP hD hS => ?_)
            obtain ⟨b53434, b53435⟩ := qu53433
            have hP : va_P (dC, dI) vwCl [(hR, .inr (2, [.ref (ed 0), .int e_length, .int v53409, .ref hp, .int v53418, .int e_start, .int v53419, .long v53410, .int e_told, .int e_faultKind, .int e_faultPlace])), (ed 0, .inl (cyB, 1600, .inl e_text))] H := hP
            have hD : va_D A [(hR, .inr (2, [.ref (ed 0), .int e_length, .int v53409, .ref hp, .int v53418, .int e_start, .int v53419, .long v53410, .int e_told, .int e_faultKind, .int e_faultPlace])), (ed 0, .inl (cyB, 1600, .inl e_text))] := hD
            refine lv_if_eq (tgt := 118) hx hb dX2_readLetters_105 (by decide) (fun c53436 => ?_) (fun c53436 => ?_)
            · have c53436 := i_eq (a := r53432.toInt) (b := 0) c53436 rfl (by decide)
              obtain ⟨z53437, ez53437⟩ : ∃ y : Int32, y = v53420 + 1 := ⟨_, rfl⟩
              have tz53437 := ti_add (a := v53420.toInt) (b := 1) ez53437 rfl (by decide) (by omega) (by omega)
              refine lv_iinc (v := z53437) (lv' := [(1, .int z53437), (0, .ref hR)]) hx hb dX2_readLetters_118 hl (k := 0) rfl (by rw [ez53437]; rfl) (by decide) rfl (fun ls hl => ?_)
              refine lv_goto (tgt := 94) hx hb dX2_readLetters_121 (by decide) ?_
              have hl := lv_sub (l' := [(1, .int z53437), (0, .ref hR)]) hl [0, 1] rfl
              apply ih53426 (v53418 := v53418) (v53419 := v53419) (v53420 := z53437) (H := H) (locs := locs) (ls := ls) <;> first | assumption | omega
            · have c53436 := i_ne (a := r53432.toInt) (b := 0) c53436 rfl (by decide)
              refine lv_aload_n hx hb dX2_readLetters_108 rfl (lv_at hl 1 rfl) ?_
              refine lv_iconst (v := 1) hx hb dX2_readLetters_109 (by decide) ?_
              refine va_put (D := (dC, dI)) (ci := 2) (v := .int 1) (ty := .int) (C := RX2) (T := TX2) (N := 11) hx hb hts hi2 tyX2 tyX2_ok nmX2 hown hK hP hD hS 0 rfl rfl 4 (by decide) (hts _ (ow_m (k := 4) rfl)) (fun _ h9 => h9) rfl (by decide +kernel) rfl rfl (Nat.le_of_ble_eq_true rfl) dX2_readLetters_110 (fun H locs hP hD hS => ?_)
              have hP : va_P (dC, dI) vwCl [(hR, .inr (2, [.ref (ed 0), .int e_length, .int v53409, .ref hp, .int 1, .int e_start, .int v53419, .long v53410, .int e_told, .int e_faultKind, .int e_faultPlace])), (ed 0, .inl (cyB, 1600, .inl e_text))] H := hP
              have hD : va_D A [(hR, .inr (2, [.ref (ed 0), .int e_length, .int v53409, .ref hp, .int 1, .int e_start, .int v53419, .long v53410, .int e_told, .int e_faultKind, .int e_faultPlace])), (ed 0, .inl (cyB, 1600, .inl e_text))] := hD
              refine lv_aload_n hx hb dX2_readLetters_113 rfl (lv_at hl 1 rfl) ?_
              refine lv_iload_n hx hb dX2_readLetters_114 rfl (lv_at hl 0 rfl) ?_
              refine va_put (D := (dC, dI)) (ci := 2) (v := .int v53420) (ty := .int) (C := RX2) (T := TX2) (N := 11) hx hb hts hi2 tyX2 tyX2_ok nmX2 hown hK hP hD hS 0 rfl rfl 6 (by decide) (hts _ (ow_m (k := 9) rfl)) (fun _ h9 => h9) rfl (by decide +kernel) rfl rfl (Nat.le_of_ble_eq_true rfl) dX2_readLetters_115 (fun H locs hP hD hS => ?_)
              have hP : va_P (dC, dI) vwCl [(hR, .inr (2, [.ref (ed 0), .int e_length, .int v53409, .ref hp, .int 1, .int e_start, .int v53420, .long v53410, .int e_told, .int e_faultKind, .int e_faultPlace])), (ed 0, .inl (cyB, 1600, .inl e_text))] H := hP
              have hD : va_D A [(hR, .inr (2, [.ref (ed 0), .int e_length, .int v53409, .ref hp, .int 1, .int e_start, .int v53420, .long v53410, .int e_told, .int e_faultKind, .int e_faultPlace])), (ed 0, .inl (cyB, 1600, .inl e_text))] := hD
              obtain ⟨z53438, ez53438⟩ : ∃ y : Int32, y = v53420 + 1 := ⟨_, rfl⟩
              have tz53438 := ti_add (a := v53420.toInt) (b := 1) ez53438 rfl (by decide) (by omega) (by omega)
              refine lv_iinc (v := z53438) (lv' := [(1, .int z53438), (0, .ref hR)]) hx hb dX2_readLetters_118 hl (k := 0) rfl (by rw [ez53438]; rfl) (by decide) rfl (fun ls hl => ?_)
              refine lv_goto (tgt := 94) hx hb dX2_readLetters_121 (by decide) ?_
              have hl := lv_sub (l' := [(1, .int z53438), (0, .ref hR)]) hl [0, 1] rfl
              apply ih53426 (v53418 := (1 : Int32)) (v53419 := v53420) (v53420 := z53438) (H := H) (locs := locs) (ls := ls) <;> first | assumption | omega
      · have c53417 := i_nle (a := z53416.toInt) (b := 8) c53417 rfl (by decide)
        refine lv_aload_n hx hb dX2_readLetters_81 rfl (lv_at hl 0 rfl) ?_
        refine lv_iconst (v := 5) hx hb dX2_readLetters_82 (by decide) ?_
        refine va_put (D := (dC, dI)) (ci := 2) (v := .int 5) (ty := .int) (C := RX2) (T := TX2) (N := 11) hx hb hts hi2 tyX2 tyX2_ok nmX2 hown hK hP hD hS 0 rfl rfl 4 (by decide) (hts _ (ow_m (k := 4) rfl)) (fun _ h9 => h9) rfl (by decide +kernel) rfl rfl (Nat.le_of_ble_eq_true rfl) dX2_readLetters_83 (fun H locs hP hD hS => ?_)
        have hP : va_P (dC, dI) vwCl [(hR, .inr (2, [.ref (ed 0), .int e_length, .int v53409, .ref hp, .int 5, .int e_start, .int e_number, .long v53410, .int e_told, .int e_faultKind, .int e_faultPlace])), (ed 0, .inl (cyB, 1600, .inl e_text))] H := hP
        have hD : va_D A [(hR, .inr (2, [.ref (ed 0), .int e_length, .int v53409, .ref hp, .int 5, .int e_start, .int e_number, .long v53410, .int e_told, .int e_faultKind, .int e_faultPlace])), (ed 0, .inl (cyB, 1600, .inl e_text))] := hD
        have w53439 : 0 ≤ v53409.toInt := by first | omega | assumption | rfl | (intros; rfl)
        have w53440 : v53409.toInt ≤ 1600 := by first | omega | assumption | rfl | (intros; rfl)
        have w53441 : 0 ≤ (5 : Int32).toInt := by first | omega | assumption | rfl | (intros; rfl)
        have w53442 : (5 : Int32).toInt ≤ 5 := by first | omega | assumption | rfl | (intros; rfl)
        exact W.vret hx hb hr (fun t ht hW => ⟨⟨((fun _ => fun _ => 0), (fun k => match k with | 0 => v53409 | 1 => 5 | _ => e_number), (fun _ => v53410), (fun _ => fun _ => 0)), rfl, ⟨w53439, w53440, w53441, w53442⟩, cE.of ht hP hD [0, 1] (by decide) rfl⟩, hS.F ht⟩) hS.2.2 dX2_readLetters_86
    · have c53415 := i_nle (a := e_length.toInt) (b := v53409.toInt) c53415 rfl rfl
      refine lv_aload_n hx hb dX2_readLetters_16 rfl (lv_at hl 0 rfl) ?_
      refine lv_aload_n hx hb dX2_readLetters_17 rfl (lv_at hl 0 rfl) ?_
      refine va_get (D := (dC, dI)) (ci := 2) (v := .int v53409) (C := RX2) (T := TX2) (N := 11) hx hb hts hi2 hown hK hP 0 rfl rfl 2 (by decide) (hts _ (ow_m (k := 1) rfl)) (fun _ h9 => h9) rfl dX2_readLetters_18 ?_
      refine gf_i (wr := []) (va_runV (As := [.int v53409]) (rest := []) hfix (k_Re_isLetter l dC dI cyB cyI cyJ cyZ cyO hR ed e_text e_length v53409 e_kind e_start e_number e_told e_faultKind e_faultPlace v53410 v53409 hp _ (by first | omega | assumption) (by first | omega | assumption) (by first | omega | assumption) (by first | omega | assumption) (by first | omega | assumption) (by first | omega | assumption) (by first | omega | assumption) (by first | omega | assumption)) (cwV 1 hts (gi_V (ow_m (k := 10) rfl) (ow_m (k := 11) rfl) (ow_m (k := 12) rfl) (ow_m (k := 8) rfl) (sb_c (sb_r sb_l)) gd_k_Re_isLetter) rfl rfl rfl (by decide +kernel) ⟨Nat.le_of_ble_eq_true rfl, Nat.le_of_ble_eq_true rfl⟩) (g_preV hKN hP hD [0, 1] rfl (by decide) 0 2 rfl rfl) rfl rfl hl.1 rfl (lv_room (Nat.le_of_ble_eq_true rfl)) dX2_readLetters_21 ⟨Nat.le_of_ble_eq_true rfl, Nat.le_of_ble_eq_true rfl⟩) hP hD hS hA [0, 1] [] rfl rfl (by decide) (by decide) (fun r53443 u53444 H locs qu53444 hP hD hS => ?_)
      obtain ⟨b53445, b53446⟩ := qu53444
      have hP : va_P (dC, dI) vwCl [(hR, .inr (2, [.ref (ed 0), .int e_length, .int v53409, .ref hp, .int e_kind, .int e_start, .int e_number, .long v53410, .int e_told, .int e_faultKind, .int e_faultPlace])), (ed 0, .inl (cyB, 1600, .inl e_text))] H := hP
      have hD : va_D A [(hR, .inr (2, [.ref (ed 0), .int e_length, .int v53409, .ref hp, .int e_kind, .int e_start, .int e_number, .long v53410, .int e_told, .int e_faultKind, .int e_faultPlace])), (ed 0, .inl (cyB, 1600, .inl e_text))] := hD
      refine lv_if_eq (tgt := 67) hx hb dX2_readLetters_24 (by decide) (fun c53447 => ?_) (fun c53447 => ?_)
      · have c53447 := i_eq (a := r53443.toInt) (b := 0) c53447 rfl (by decide)
        refine lv_aload_n hx hb dX2_readLetters_67 rfl (lv_at hl 0 rfl) ?_
        refine va_get (D := (dC, dI)) (ci := 2) (v := .int v53409) (C := RX2) (T := TX2) (N := 11) hx hb hts hi2 hown hK hP 0 rfl rfl 2 (by decide) (hts _ (ow_m (k := 1) rfl)) (fun _ h9 => h9) rfl dX2_readLetters_68 ?_
        refine lv_aload_n hx hb dX2_readLetters_71 rfl (lv_at hl 0 rfl) ?_
        refine va_get (D := (dC, dI)) (ci := 2) (v := .int e_start) (C := RX2) (T := TX2) (N := 11) hx hb hts hi2 hown hK hP 0 rfl rfl 5 (by decide) (hts _ (ow_m (k := 3) rfl)) (fun _ h9 => h9) rfl dX2_readLetters_72 ?_
        refine lv_isub hx hb dX2_readLetters_75 ?_
        refine lv_topi (fun z53448 ez53448 => ?_)
        have tz53448 := ti_sub (a := v53409.toInt) (b := e_start.toInt) ez53448 rfl rfl (by omega) (by omega)
        refine lv_bipush (v := 8) hx hb dX2_readLetters_76 (by decide) ?_
        refine lv_icmp_le (tgt := 87) hx hb dX2_readLetters_78 (by decide) (fun c53449 => ?_) (fun c53449 => ?_)
        · have c53449 := i_le (a := z53448.toInt) (b := 8) c53449 rfl (by decide)
          refine lv_aload_n hx hb dX2_readLetters_87 rfl (lv_at hl 0 rfl) ?_
          refine lv_iconst (v := 2) hx hb dX2_readLetters_88 (by decide) ?_
          refine va_put (D := (dC, dI)) (ci := 2) (v := .int 2) (ty := .int) (C := RX2) (T := TX2) (N := 11) hx hb hts hi2 tyX2 tyX2_ok nmX2 hown hK hP hD hS 0 rfl rfl 4 (by decide) (hts _ (ow_m (k := 4) rfl)) (fun _ h9 => h9) rfl (by decide +kernel) rfl rfl (Nat.le_of_ble_eq_true rfl) dX2_readLetters_89 (fun H locs hP hD hS => ?_)
          have hP : va_P (dC, dI) vwCl [(hR, .inr (2, [.ref (ed 0), .int e_length, .int v53409, .ref hp, .int 2, .int e_start, .int e_number, .long v53410, .int e_told, .int e_faultKind, .int e_faultPlace])), (ed 0, .inl (cyB, 1600, .inl e_text))] H := hP
          have hD : va_D A [(hR, .inr (2, [.ref (ed 0), .int e_length, .int v53409, .ref hp, .int 2, .int e_start, .int e_number, .long v53410, .int e_told, .int e_faultKind, .int e_faultPlace])), (ed 0, .inl (cyB, 1600, .inl e_text))] := hD
          refine lv_iconst (v := 0) hx hb dX2_readLetters_92 (by decide) ?_
          refine lv_istore_n (lv' := [(1, .int 0), (0, .ref hR)]) hx hb dX2_readLetters_93 rfl hl (by decide) rfl (fun ls hl => ?_)
          refine w_gen (fun H locs ls hP hS hl => ?_) hP hS hl
          obtain ⟨v53450, v53451, v53452, hl2, hP2, hD2, b53453, b53454, b53455, b53456⟩ : ∃ (v53450 : Int32) (v53451 : Int32) (v53452 : Int32), lv_has ls 2 [(1, .int v53452), (0, .ref hR)] ∧ va_P (dC, dI) vwCl [(hR, .inr (2, [.ref (ed 0), .int e_length, .int v53409, .ref hp, .int v53450, .int e_start, .int v53451, .long v53410, .int e_told, .int e_faultKind, .int e_faultPlace])), (ed 0, .inl (cyB, 1600, .inl e_text))] H ∧ va_D A [(hR, .inr (2, [.ref (ed 0), .int e_length, .int v53409, .ref hp, .int v53450, .int e_start, .int v53451, .long v53410, .int e_told, .int e_faultKind, .int e_faultPlace])), (ed 0, .inl (cyB, 1600, .inl e_text))] ∧ (1 ≤ v53450.toInt) ∧ (v53450.toInt ≤ 2) ∧ (0 ≤ v53452.toInt) ∧ (v53452.toInt ≤ 16) := ⟨(2 : Int32), e_number, (0 : Int32), hl, hP, hD, by first | assumption | omega, by first | assumption | omega, by first | assumption | omega, by first | assumption | omega⟩
          clear hP hl
          have hP := hP2
          have hD := hD2
          have hl := hl2
          clear hP2 hD2 hl2
          obtain ⟨n53457, hn53457⟩ : ∃ n : Nat, 16 - v53452.toInt < (n : Int) := ⟨(16 - v53452.toInt).toNat + 1, by omega⟩
          induction n53457 generalizing v53450 v53451 v53452 H locs ls with
          | zero => exfalso; omega
          | succ n53457 ih53458 =>
            refine lv_iload_n hx hb dX2_readLetters_94 rfl (lv_at hl 0 rfl) ?_
            refine lv_bipush (v := 15) hx hb dX2_readLetters_95 (by decide) ?_
            refine lv_icmp_gt (tgt := 124) hx hb dX2_readLetters_97 (by decide) (fun c53459 => ?_) (fun c53459 => ?_)
            · have c53459 := i_lt (a := 15) (b := v53452.toInt) c53459 (by decide) rfl
              have w53460 : 0 ≤ v53409.toInt := by first | omega | assumption | rfl | (intros; rfl)
              have w53461 : v53409.toInt ≤ 1600 := by first | omega | assumption | rfl | (intros; rfl)
              have w53462 : 0 ≤ v53450.toInt := by first | omega | assumption | rfl | (intros; rfl)
              have w53463 : v53450.toInt ≤ 5 := by first | omega | assumption | rfl | (intros; rfl)
              exact W.vret hx hb hr (fun t ht hW => ⟨⟨((fun _ => fun _ => 0), (fun k => match k with | 0 => v53409 | 1 => v53450 | _ => v53451), (fun _ => v53410), (fun _ => fun _ => 0)), rfl, ⟨w53460, w53461, w53462, w53463⟩, cE.of ht hP hD [0, 1] (by decide) rfl⟩, hS.F ht⟩) hS.2.2 dX2_readLetters_124
            · have c53459 := i_nlt (a := 15) (b := v53452.toInt) c53459 (by decide) rfl
              refine lv_aload_n hx hb dX2_readLetters_100 rfl (lv_at hl 1 rfl) ?_
              refine lv_iload_n hx hb dX2_readLetters_101 rfl (lv_at hl 0 rfl) ?_
              refine gf_i (wr := []) (va_runV (As := [.int v53452]) (rest := []) hfix (k_Re_isSpelt l dC dI cyB cyI cyJ cyZ cyO adK adV hR ed e_text e_length v53409 v53450 e_start v53451 e_told e_faultKind e_faultPlace v53410 v53452 hp _ (by first | omega | assumption) (by first | omega | assumption) (by first | omega | assumption) (by first | omega | assumption) (by first | omega | assumption) (by first | omega | assumption) (by first | omega | assumption) (by first | omega | assumption) (by first | omega | assumption) (by first | omega | assumption)) (cwV 1 hts (gi_V (ow_m (k := 5) rfl) (ow_m (k := 6) rfl) (ow_m (k := 7) rfl) (ow_m (k := 8) rfl) (sb_c sb_l) gd_k_Re_isSpelt) rfl rfl rfl (by decide +kernel) ⟨Nat.le_of_ble_eq_true rfl, Nat.le_of_ble_eq_true rfl⟩) (g_preVZ hZ hS hA hKN hP hD [0, 1] rfl (by decide) 0 2 rfl rfl) rfl rfl hl.1 rfl (lv_room (Nat.le_of_ble_eq_true rfl)) dX2_readLetters_102 ⟨Nat.le_of_ble_eq_true rfl, Nat.le_of_ble_eq_true rfl⟩) hP hD hS hA [0, 1] [] rfl rfl (by decide) (by decide) (fun r53464 u53465 H locs qu53465 hP hD hS => ?_)
              obtain ⟨b53466, b53467⟩ := qu53465
              have hP : va_P (dC, dI) vwCl [(hR, .inr (2, [.ref (ed 0), .int e_length, .int v53409, .ref hp, .int v53450, .int e_start, .int v53451, .long v53410, .int e_told, .int e_faultKind, .int e_faultPlace])), (ed 0, .inl (cyB, 1600, .inl e_text))] H := hP
              have hD : va_D A [(hR, .inr (2, [.ref (ed 0), .int e_length, .int v53409, .ref hp, .int v53450, .int e_start, .int v53451, .long v53410, .int e_told, .int e_faultKind, .int e_faultPlace])), (ed 0, .inl (cyB, 1600, .inl e_text))] := hD
              refine lv_if_eq (tgt := 118) hx hb dX2_readLetters_105 (by decide) (fun c53468 => ?_) (fun c53468 => ?_)
              · have c53468 := i_eq (a := r53464.toInt) (b := 0) c53468 rfl (by decide)
                obtain ⟨z53469, ez53469⟩ : ∃ y : Int32, y = v53452 + 1 := ⟨_, rfl⟩
                have tz53469 := ti_add (a := v53452.toInt) (b := 1) ez53469 rfl (by decide) (by omega) (by omega)
                refine lv_iinc (v := z53469) (lv' := [(1, .int z53469), (0, .ref hR)]) hx hb dX2_readLetters_118 hl (k := 0) rfl (by rw [ez53469]; rfl) (by decide) rfl (fun ls hl => ?_)
                refine lv_goto (tgt := 94) hx hb dX2_readLetters_121 (by decide) ?_
                have hl := lv_sub (l' := [(1, .int z53469), (0, .ref hR)]) hl [0, 1] rfl
                apply ih53458 (v53450 := v53450) (v53451 := v53451) (v53452 := z53469) (H := H) (locs := locs) (ls := ls) <;> first | assumption | omega
              · have c53468 := i_ne (a := r53464.toInt) (b := 0) c53468 rfl (by decide)
                refine lv_aload_n hx hb dX2_readLetters_108 rfl (lv_at hl 1 rfl) ?_
                refine lv_iconst (v := 1) hx hb dX2_readLetters_109 (by decide) ?_
                refine va_put (D := (dC, dI)) (ci := 2) (v := .int 1) (ty := .int) (C := RX2) (T := TX2) (N := 11) hx hb hts hi2 tyX2 tyX2_ok nmX2 hown hK hP hD hS 0 rfl rfl 4 (by decide) (hts _ (ow_m (k := 4) rfl)) (fun _ h9 => h9) rfl (by decide +kernel) rfl rfl (Nat.le_of_ble_eq_true rfl) dX2_readLetters_110 (fun H locs hP hD hS => ?_)
                have hP : va_P (dC, dI) vwCl [(hR, .inr (2, [.ref (ed 0), .int e_length, .int v53409, .ref hp, .int 1, .int e_start, .int v53451, .long v53410, .int e_told, .int e_faultKind, .int e_faultPlace])), (ed 0, .inl (cyB, 1600, .inl e_text))] H := hP
                have hD : va_D A [(hR, .inr (2, [.ref (ed 0), .int e_length, .int v53409, .ref hp, .int 1, .int e_start, .int v53451, .long v53410, .int e_told, .int e_faultKind, .int e_faultPlace])), (ed 0, .inl (cyB, 1600, .inl e_text))] := hD
                refine lv_aload_n hx hb dX2_readLetters_113 rfl (lv_at hl 1 rfl) ?_
                refine lv_iload_n hx hb dX2_readLetters_114 rfl (lv_at hl 0 rfl) ?_
                refine va_put (D := (dC, dI)) (ci := 2) (v := .int v53452) (ty := .int) (C := RX2) (T := TX2) (N := 11) hx hb hts hi2 tyX2 tyX2_ok nmX2 hown hK hP hD hS 0 rfl rfl 6 (by decide) (hts _ (ow_m (k := 9) rfl)) (fun _ h9 => h9) rfl (by decide +kernel) rfl rfl (Nat.le_of_ble_eq_true rfl) dX2_readLetters_115 (fun H locs hP hD hS => ?_)
                have hP : va_P (dC, dI) vwCl [(hR, .inr (2, [.ref (ed 0), .int e_length, .int v53409, .ref hp, .int 1, .int e_start, .int v53452, .long v53410, .int e_told, .int e_faultKind, .int e_faultPlace])), (ed 0, .inl (cyB, 1600, .inl e_text))] H := hP
                have hD : va_D A [(hR, .inr (2, [.ref (ed 0), .int e_length, .int v53409, .ref hp, .int 1, .int e_start, .int v53452, .long v53410, .int e_told, .int e_faultKind, .int e_faultPlace])), (ed 0, .inl (cyB, 1600, .inl e_text))] := hD
                obtain ⟨z53470, ez53470⟩ : ∃ y : Int32, y = v53452 + 1 := ⟨_, rfl⟩
                have tz53470 := ti_add (a := v53452.toInt) (b := 1) ez53470 rfl (by decide) (by omega) (by omega)
                refine lv_iinc (v := z53470) (lv' := [(1, .int z53470), (0, .ref hR)]) hx hb dX2_readLetters_118 hl (k := 0) rfl (by rw [ez53470]; rfl) (by decide) rfl (fun ls hl => ?_)
                refine lv_goto (tgt := 94) hx hb dX2_readLetters_121 (by decide) ?_
                have hl := lv_sub (l' := [(1, .int z53470), (0, .ref hR)]) hl [0, 1] rfl
                apply ih53458 (v53450 := (1 : Int32)) (v53451 := v53452) (v53452 := z53470) (H := H) (locs := locs) (ls := ls) <;> first | assumption | omega
        · have c53449 := i_nle (a := z53448.toInt) (b := 8) c53449 rfl (by decide)
          refine lv_aload_n hx hb dX2_readLetters_81 rfl (lv_at hl 0 rfl) ?_
          refine lv_iconst (v := 5) hx hb dX2_readLetters_82 (by decide) ?_
          refine va_put (D := (dC, dI)) (ci := 2) (v := .int 5) (ty := .int) (C := RX2) (T := TX2) (N := 11) hx hb hts hi2 tyX2 tyX2_ok nmX2 hown hK hP hD hS 0 rfl rfl 4 (by decide) (hts _ (ow_m (k := 4) rfl)) (fun _ h9 => h9) rfl (by decide +kernel) rfl rfl (Nat.le_of_ble_eq_true rfl) dX2_readLetters_83 (fun H locs hP hD hS => ?_)
          have hP : va_P (dC, dI) vwCl [(hR, .inr (2, [.ref (ed 0), .int e_length, .int v53409, .ref hp, .int 5, .int e_start, .int e_number, .long v53410, .int e_told, .int e_faultKind, .int e_faultPlace])), (ed 0, .inl (cyB, 1600, .inl e_text))] H := hP
          have hD : va_D A [(hR, .inr (2, [.ref (ed 0), .int e_length, .int v53409, .ref hp, .int 5, .int e_start, .int e_number, .long v53410, .int e_told, .int e_faultKind, .int e_faultPlace])), (ed 0, .inl (cyB, 1600, .inl e_text))] := hD
          have w53471 : 0 ≤ v53409.toInt := by first | omega | assumption | rfl | (intros; rfl)
          have w53472 : v53409.toInt ≤ 1600 := by first | omega | assumption | rfl | (intros; rfl)
          have w53473 : 0 ≤ (5 : Int32).toInt := by first | omega | assumption | rfl | (intros; rfl)
          have w53474 : (5 : Int32).toInt ≤ 5 := by first | omega | assumption | rfl | (intros; rfl)
          exact W.vret hx hb hr (fun t ht hW => ⟨⟨((fun _ => fun _ => 0), (fun k => match k with | 0 => v53409 | 1 => 5 | _ => e_number), (fun _ => v53410), (fun _ => fun _ => 0)), rfl, ⟨w53471, w53472, w53473, w53474⟩, cE.of ht hP hD [0, 1] (by decide) rfl⟩, hS.F ht⟩) hS.2.2 dX2_readLetters_86
      · have c53447 := i_ne (a := r53443.toInt) (b := 0) c53447 rfl (by decide)
        refine lv_aload_n hx hb dX2_readLetters_27 rfl (lv_at hl 0 rfl) ?_
        refine lv_aload_n hx hb dX2_readLetters_28 rfl (lv_at hl 0 rfl) ?_
        refine va_get (D := (dC, dI)) (ci := 2) (v := .long v53410) (C := RX2) (T := TX2) (N := 11) hx hb hts hi2 hown hK hP 0 rfl rfl 7 (by decide) (hts _ (ow_m (k := 0) rfl)) (fun _ h9 => h9) rfl dX2_readLetters_29 ?_
        refine lv_ldc2 (v := 32) hx hb hown (hts _ (ow_m (k := 13) rfl)) dX2_readLetters_32 ?_
        refine lv_lmul hx hb dX2_readLetters_35 ?_
        refine lv_topl (fun j53475 ej53475 => ?_)
        refine lv_aload_n hx hb dX2_readLetters_36 rfl (lv_at hl 0 rfl) ?_
        refine lv_aload_n hx hb dX2_readLetters_37 rfl (lv_at hl 0 rfl) ?_
        refine va_get (D := (dC, dI)) (ci := 2) (v := .int v53409) (C := RX2) (T := TX2) (N := 11) hx hb hts hi2 hown hK hP 0 rfl rfl 2 (by decide) (hts _ (ow_m (k := 1) rfl)) (fun _ h9 => h9) rfl dX2_readLetters_38 ?_
        refine gf_i (wr := []) (va_runV (As := [.int v53409]) (rest := [.long j53475, .ref hR]) hfix (k_Re_byteAt l dC dI cyB cyI cyJ cyZ cyO hR ed e_text e_length v53409 e_kind e_start e_number e_told e_faultKind e_faultPlace v53410 v53409 hp _ (by first | omega | assumption) (by first | omega | assumption) (by first | omega | assumption) (by first | omega | assumption) (by first | omega | assumption) (by first | omega | assumption) (by first | omega | assumption) (by first | omega | assumption)) (cwV 1 hts (gi_V (ow_m (k := 14) rfl) (ow_m (k := 15) rfl) (ow_m (k := 16) rfl) (ow_m (k := 8) rfl) (sb_c (sb_r (sb_r sb_l))) gd_k_Re_byteAt) rfl rfl rfl (by decide +kernel) ⟨Nat.le_of_ble_eq_true rfl, Nat.le_of_ble_eq_true rfl⟩) (g_preV hKN hP hD [0, 1] rfl (by decide) 0 2 rfl rfl) rfl rfl hl.1 rfl (lv_room (Nat.le_of_ble_eq_true rfl)) dX2_readLetters_41 ⟨Nat.le_of_ble_eq_true rfl, Nat.le_of_ble_eq_true rfl⟩) hP hD hS hA [0, 1] [] rfl rfl (by decide) (by decide) (fun r53476 u53477 H locs qu53477 hP hD hS => ?_)
        obtain ⟨b53478, b53479⟩ := qu53477
        have hP : va_P (dC, dI) vwCl [(hR, .inr (2, [.ref (ed 0), .int e_length, .int v53409, .ref hp, .int e_kind, .int e_start, .int e_number, .long v53410, .int e_told, .int e_faultKind, .int e_faultPlace])), (ed 0, .inl (cyB, 1600, .inl e_text))] H := hP
        have hD : va_D A [(hR, .inr (2, [.ref (ed 0), .int e_length, .int v53409, .ref hp, .int e_kind, .int e_start, .int e_number, .long v53410, .int e_told, .int e_faultKind, .int e_faultPlace])), (ed 0, .inl (cyB, 1600, .inl e_text))] := hD
        refine lv_bipush (v := 97) hx hb dX2_readLetters_44 (by decide) ?_
        refine lv_isub hx hb dX2_readLetters_46 ?_
        refine lv_topi (fun z53480 ez53480 => ?_)
        have tz53480 := ti_sub (a := r53476.toInt) (b := 97) ez53480 rfl (by decide) (by omega) (by omega)
        refine lv_iconst (v := 1) hx hb dX2_readLetters_47 (by decide) ?_
        refine lv_iadd hx hb dX2_readLetters_48 ?_
        refine lv_topi (fun z53481 ez53481 => ?_)
        have tz53481 := ti_add (a := z53480.toInt) (b := 1) ez53481 rfl (by decide) (by omega) (by omega)
        refine lv_i2l hx hb dX2_readLetters_49 rfl ?_
        refine lv_topl (fun j53482 ej53482 => ?_)
        refine lv_ladd hx hb dX2_readLetters_50 ?_
        refine lv_topl (fun j53483 ej53483 => ?_)
        refine va_put (D := (dC, dI)) (ci := 2) (v := .long j53483) (ty := .long) (C := RX2) (T := TX2) (N := 11) hx hb hts hi2 tyX2 tyX2_ok nmX2 hown hK hP hD hS 0 rfl rfl 7 (by decide) (hts _ (ow_m (k := 0) rfl)) (fun _ h9 => h9) rfl (by decide +kernel) rfl rfl (Nat.le_of_ble_eq_true rfl) dX2_readLetters_51 (fun H locs hP hD hS => ?_)
        have hP : va_P (dC, dI) vwCl [(hR, .inr (2, [.ref (ed 0), .int e_length, .int v53409, .ref hp, .int e_kind, .int e_start, .int e_number, .long j53483, .int e_told, .int e_faultKind, .int e_faultPlace])), (ed 0, .inl (cyB, 1600, .inl e_text))] H := hP
        have hD : va_D A [(hR, .inr (2, [.ref (ed 0), .int e_length, .int v53409, .ref hp, .int e_kind, .int e_start, .int e_number, .long j53483, .int e_told, .int e_faultKind, .int e_faultPlace])), (ed 0, .inl (cyB, 1600, .inl e_text))] := hD
        refine lv_aload_n hx hb dX2_readLetters_54 rfl (lv_at hl 0 rfl) ?_
        refine lv_dup hx hb dX2_readLetters_55 rfl ?_
        refine va_get (D := (dC, dI)) (ci := 2) (v := .int v53409) (C := RX2) (T := TX2) (N := 11) hx hb hts hi2 hown hK hP 0 rfl rfl 2 (by decide) (hts _ (ow_m (k := 1) rfl)) (fun _ h9 => h9) rfl dX2_readLetters_56 ?_
        refine lv_iconst (v := 1) hx hb dX2_readLetters_59 (by decide) ?_
        refine lv_iadd hx hb dX2_readLetters_60 ?_
        refine lv_topi (fun z53484 ez53484 => ?_)
        have tz53484 := ti_add (a := v53409.toInt) (b := 1) ez53484 rfl (by decide) (by omega) (by omega)
        refine va_put (D := (dC, dI)) (ci := 2) (v := .int z53484) (ty := .int) (C := RX2) (T := TX2) (N := 11) hx hb hts hi2 tyX2 tyX2_ok nmX2 hown hK hP hD hS 0 rfl rfl 2 (by decide) (hts _ (ow_m (k := 1) rfl)) (fun _ h9 => h9) rfl (by decide +kernel) rfl rfl (Nat.le_of_ble_eq_true rfl) dX2_readLetters_61 (fun H locs hP hD hS => ?_)
        have hP : va_P (dC, dI) vwCl [(hR, .inr (2, [.ref (ed 0), .int e_length, .int z53484, .ref hp, .int e_kind, .int e_start, .int e_number, .long j53483, .int e_told, .int e_faultKind, .int e_faultPlace])), (ed 0, .inl (cyB, 1600, .inl e_text))] H := hP
        have hD : va_D A [(hR, .inr (2, [.ref (ed 0), .int e_length, .int z53484, .ref hp, .int e_kind, .int e_start, .int e_number, .long j53483, .int e_told, .int e_faultKind, .int e_faultPlace])), (ed 0, .inl (cyB, 1600, .inl e_text))] := hD
        refine lv_goto (tgt := 5) hx hb dX2_readLetters_64 (by decide) ?_
        have hl := lv_sub (l' := [(0, .ref hR)]) hl [0] rfl
        apply ih53414 (v53409 := z53484) (v53410 := j53483) (H := H) (locs := locs) (ls := ls) <;> first | assumption | omega
def wo_k_Re_readDigits : List Cond := [.fieldLink RX2 62 "ReplicaChain$Reader" "number" "I", .fieldLink RX2 32 "ReplicaChain$Reader" "at" "I", .fieldLink RX2 29 "ReplicaChain$Reader" "length" "I", .fieldLink RX2 59 "ReplicaChain$Reader" "start" "I", .fieldLink RX2 53 "ReplicaChain$Reader" "kind" "I", .methodLink RX2 167 yX2_isLetter, .instanceMethod yX2_isLetter, .selects RX2 yX2_isLetter yX2_isLetter, .initialized RX2, .methodLink RX2 173 yX2_isDigit, .instanceMethod yX2_isDigit, .selects RX2 yX2_isDigit yX2_isDigit, .methodLink RX2 163 yX2_byteAt, .instanceMethod yX2_byteAt, .selects RX2 yX2_byteAt yX2_byteAt]
def wq_k_Re_readDigits : List Cond := .code yX2_readDigits cX2_readDigits 1 none :: (wo_k_Re_readDigits ++ (wq_k_Re_isLetter ++ (wq_k_Re_isDigit ++ (wq_k_Re_byteAt ++ (wsX20 ++ [])))))
theorem gd_k_Re_readDigits : Gd wq_k_Re_readDigits := gd_c (gd_a (gd_o (by decide +kernel)) (gd_a gd_k_Re_isLetter (gd_a gd_k_Re_isDigit (gd_a gd_k_Re_byteAt (gd_a gd_u gd_0)))))
abbrev wc_k_Re_readDigits (cyB cyI cyJ cyZ cyO : ClassId) (hR : Nat) (ed : Nat → Nat) (e_text : Nat → Int32) (e_length : Int32) (e_at : Int32) (e_kind : Int32) (e_start : Int32) (e_number : Int32) (e_told : Int32) (e_faultKind : Int32) (e_faultPlace : Int32) (e_name : Int64) (hp : Nat) : va_W := [(hR, .inr (2, [.ref (ed 0), .int e_length, .int e_at, .ref hp, .int e_kind, .int e_start, .int e_number, .long e_name, .int e_told, .int e_faultKind, .int e_faultPlace])), (ed 0, .inl (cyB, 1600, .inl e_text))]
set_option maxHeartbeats 4000000 in
set_option maxRecDepth 100000 in
theorem k_Re_readDigits (l : Launch) (dC : Nat → ClassId) (dI : Nat → Nat → Nat) (cyB cyI cyJ cyZ cyO : ClassId) (hR : Nat) (ed : Nat → Nat) (e_text : Nat → Int32) (e_length : Int32) (e_at : Int32) (e_kind : Int32) (e_start : Int32) (e_number : Int32) (e_told : Int32) (e_faultKind : Int32) (e_faultPlace : Int32) (e_name : Int64) (hp : Nat) (sz : Nat) (l_e_length : 0 ≤ e_length.toInt) (u_e_length : e_length.toInt ≤ 1600) (l_e_at : 0 ≤ e_at.toInt) (u_e_at : e_at.toInt ≤ 1600) (l_e_kind : 0 ≤ e_kind.toInt) (u_e_kind : e_kind.toInt ≤ 5) (l_e_start : 0 ≤ e_start.toInt) (u_e_start : e_start.toInt ≤ 1600) : Met l yX2_readDigits wq_k_Re_readDigits ({ frames := 2, cells := 0, slots := 0, locals := 42 }) (va_Pc [.ref hR] (cB (dC, dI) (kT cyB cyI cyJ cyZ cyO) (wc_k_Re_readDigits cyB cyI cyJ cyZ cyO hR ed e_text e_length e_at e_kind e_start e_number e_told e_faultKind e_faultPlace e_name hp) sz)) (va_Qv (fun (u : ST4) => (0 ≤ (u.2.1 0).toInt) ∧ ((u.2.1 0).toInt ≤ 1600) ∧ (0 ≤ (u.2.1 1).toInt) ∧ ((u.2.1 1).toInt ≤ 5)) (fun (u : ST4) t => cE (dC, dI) (va_A (wc_k_Re_readDigits cyB cyI cyJ cyZ cyO hR ed e_text e_length e_at e_kind e_start e_number e_told e_faultKind e_faultPlace e_name hp) sz) ([(hR, .inr (2, [.ref (ed 0), .int e_length, .int (u.2.1 0), .ref hp, .int (u.2.1 1), .int e_start, .int (u.2.1 2), .long e_name, .int e_told, .int e_faultKind, .int e_faultPlace])), (ed 0, .inl (cyB, 1600, .inl e_text))]) t.heap) (va_A (wc_k_Re_readDigits cyB cyI cyJ cyZ cyO hR ed e_text e_length e_at e_kind e_start e_number e_told e_faultKind e_faultPlace e_name hp) sz)) 0 0 (va_A (wc_k_Re_readDigits cyB cyI cyJ cyZ cyO hR ed e_text e_length e_at e_kind e_start e_number e_told e_faultKind e_faultPlace e_name hp) sz) := by
  refine Met.ofW (cc := cX2_readDigits) (maxL := 1) (ret := none) (by decide) rfl ?_
  intro p e s m args below meth c s₁ B hml hv
  obtain ⟨rfl, hsz, hP, hKN, hD0⟩ := hv
  have hx := B.exec
  have hb := B.bytes
  have hr := B.returns
  have hts := atoms_spec (ws := wq_k_Re_readDigits) B.pre
  have hown : s.vm.findClass RX2 = some m.cls := findClass_of_methodNamed B.named
  have hlocks := B.notSynchronized
  have hK := hKN.1
  have hfix : CallFix p m c cX2_readDigits 1 s [.ref hR].toArray wq_k_Re_readDigits RX2 := ⟨hx, hb, hml, hown, hts⟩
  have hi2 : ∀ w ∈ wsX20, w ∈ wq_k_Re_readDigits := (sb_c (sb_r (sb_r (sb_r sb_l))))
  subst hsz
  have hD := hD0.self (sz := s.heap.size)
  generalize hAe : va_A (wc_k_Re_readDigits cyB cyI cyJ cyZ cyO hR ed e_text e_length e_at e_kind e_start e_number e_told e_faultKind e_faultPlace e_name hp) s.heap.size = A at hD ⊢
  have hA : ∀ q : Nat, s.heap.size ≤ q → A q := fun q h => by rw [← hAe]; exact Or.inr h
  have hS : va_S A s.heap s.heap [] := va_S.rf
  have hl := lv_entry ([.ref hR]) (n := 1) (Nat.le_of_ble_eq_true rfl)
  rw [lg_entry_eq]
  generalize (lg_sl ([.ref hR]) ++ List.replicate (1 - (lg_sl ([.ref hR])).length) Slot.unset).toArray = ls at hl ⊢
  have hl : lv_has ls 1 [(0, .ref hR)] := hl
  have ck0 : (0 : Int32).toInt = 0 := by decide
  have ck3 : (3 : Int32).toInt = 3 := by decide
  have ck5 : (5 : Int32).toInt = 5 := by decide
  refine lv_aload_n hx hb dX2_readDigits_0 rfl (lv_at hl 0 rfl) ?_
  refine lv_iconst (v := 0) hx hb dX2_readDigits_1 (by decide) ?_
  refine va_put (D := (dC, dI)) (ci := 2) (v := .int 0) (ty := .int) (C := RX2) (T := TX2) (N := 11) hx hb hts hi2 tyX2 tyX2_ok nmX2 hown hK hP hD hS 0 rfl rfl 6 (by decide) (hts _ (ow_m (k := 0) rfl)) (fun _ h9 => h9) rfl (by decide +kernel) rfl rfl (Nat.le_of_ble_eq_true rfl) dX2_readDigits_2 (fun H locs hP hD hS => ?_)
  have hP : va_P (dC, dI) vwCl [(hR, .inr (2, [.ref (ed 0), .int e_length, .int e_at, .ref hp, .int e_kind, .int e_start, .int 0, .long e_name, .int e_told, .int e_faultKind, .int e_faultPlace])), (ed 0, .inl (cyB, 1600, .inl e_text))] H := hP
  have hD : va_D A [(hR, .inr (2, [.ref (ed 0), .int e_length, .int e_at, .ref hp, .int e_kind, .int e_start, .int 0, .long e_name, .int e_told, .int e_faultKind, .int e_faultPlace])), (ed 0, .inl (cyB, 1600, .inl e_text))] := hD
  refine w_gen (fun H locs ls hP hS hl => ?_) hP hS hl
  obtain ⟨v53827, v53828, hl2, hP2, hD2, b53829, b53830⟩ : ∃ (v53827 : Int32) (v53828 : Int32), lv_has ls 1 [(0, .ref hR)] ∧ va_P (dC, dI) vwCl [(hR, .inr (2, [.ref (ed 0), .int e_length, .int v53827, .ref hp, .int e_kind, .int e_start, .int v53828, .long e_name, .int e_told, .int e_faultKind, .int e_faultPlace])), (ed 0, .inl (cyB, 1600, .inl e_text))] H ∧ va_D A [(hR, .inr (2, [.ref (ed 0), .int e_length, .int v53827, .ref hp, .int e_kind, .int e_start, .int v53828, .long e_name, .int e_told, .int e_faultKind, .int e_faultPlace])), (ed 0, .inl (cyB, 1600, .inl e_text))] ∧ (0 ≤ v53827.toInt) ∧ (v53827.toInt ≤ 1600) := ⟨e_at, (0 : Int32), hl, hP, hD, by first | assumption | omega, by first | assumption | omega⟩
  clear hP hl
  have hP := hP2
  have hD := hD2
  have hl := hl2
  clear hP2 hD2 hl2
  obtain ⟨n53831, hn53831⟩ : ∃ n : Nat, max (e_length.toInt - v53827.toInt) 0 < (n : Int) := ⟨(max (e_length.toInt - v53827.toInt) 0).toNat + 1, by omega⟩
  induction n53831 generalizing v53827 v53828 H locs ls with
  | zero => exfalso; omega
  | succ n53831 ih53832 =>
    refine lv_aload_n hx hb dX2_readDigits_5 rfl (lv_at hl 0 rfl) ?_
    refine va_get (D := (dC, dI)) (ci := 2) (v := .int v53827) (C := RX2) (T := TX2) (N := 11) hx hb hts hi2 hown hK hP 0 rfl rfl 2 (by decide) (hts _ (ow_m (k := 1) rfl)) (fun _ h9 => h9) rfl dX2_readDigits_6 ?_
    refine lv_aload_n hx hb dX2_readDigits_9 rfl (lv_at hl 0 rfl) ?_
    refine va_get (D := (dC, dI)) (ci := 2) (v := .int e_length) (C := RX2) (T := TX2) (N := 11) hx hb hts hi2 hown hK hP 0 rfl rfl 1 (by decide) (hts _ (ow_m (k := 2) rfl)) (fun _ h9 => h9) rfl dX2_readDigits_10 ?_
    refine lv_icmp_ge (tgt := 63) hx hb dX2_readDigits_13 (by decide) (fun c53833 => ?_) (fun c53833 => ?_)
    · have c53833 := i_le (a := e_length.toInt) (b := v53827.toInt) c53833 rfl rfl
      refine lv_aload_n hx hb dX2_readDigits_63 rfl (lv_at hl 0 rfl) ?_
      refine lv_aload_n hx hb dX2_readDigits_64 rfl (lv_at hl 0 rfl) ?_
      refine va_get (D := (dC, dI)) (ci := 2) (v := .int v53827) (C := RX2) (T := TX2) (N := 11) hx hb hts hi2 hown hK hP 0 rfl rfl 2 (by decide) (hts _ (ow_m (k := 1) rfl)) (fun _ h9 => h9) rfl dX2_readDigits_65 ?_
      refine lv_aload_n hx hb dX2_readDigits_68 rfl (lv_at hl 0 rfl) ?_
      refine va_get (D := (dC, dI)) (ci := 2) (v := .int e_start) (C := RX2) (T := TX2) (N := 11) hx hb hts hi2 hown hK hP 0 rfl rfl 5 (by decide) (hts _ (ow_m (k := 3) rfl)) (fun _ h9 => h9) rfl dX2_readDigits_69 ?_
      refine lv_isub hx hb dX2_readDigits_72 ?_
      refine lv_topi (fun z53834 ez53834 => ?_)
      have tz53834 := ti_sub (a := v53827.toInt) (b := e_start.toInt) ez53834 rfl rfl (by omega) (by omega)
      refine lv_iconst (v := 4) hx hb dX2_readDigits_73 (by decide) ?_
      refine lv_icmp_gt (tgt := 88) hx hb dX2_readDigits_74 (by decide) (fun c53835 => ?_) (fun c53835 => ?_)
      · have c53835 := i_lt (a := 4) (b := z53834.toInt) c53835 (by decide) rfl
        refine lv_iconst (v := 5) hx hb dX2_readDigits_88 (by decide) ?_
        refine lv_goto (tgt := 93) hx hb dX2_readDigits_89 (by decide) ?_
        refine va_put (D := (dC, dI)) (ci := 2) (v := .int 5) (ty := .int) (C := RX2) (T := TX2) (N := 11) hx hb hts hi2 tyX2 tyX2_ok nmX2 hown hK hP hD hS 0 rfl rfl 4 (by decide) (hts _ (ow_m (k := 4) rfl)) (fun _ h9 => h9) rfl (by decide +kernel) rfl rfl (Nat.le_of_ble_eq_true rfl) dX2_readDigits_93 (fun H locs hP hD hS => ?_)
        have hP : va_P (dC, dI) vwCl [(hR, .inr (2, [.ref (ed 0), .int e_length, .int v53827, .ref hp, .int 5, .int e_start, .int v53828, .long e_name, .int e_told, .int e_faultKind, .int e_faultPlace])), (ed 0, .inl (cyB, 1600, .inl e_text))] H := hP
        have hD : va_D A [(hR, .inr (2, [.ref (ed 0), .int e_length, .int v53827, .ref hp, .int 5, .int e_start, .int v53828, .long e_name, .int e_told, .int e_faultKind, .int e_faultPlace])), (ed 0, .inl (cyB, 1600, .inl e_text))] := hD
        have w53836 : 0 ≤ v53827.toInt := by first | omega | assumption | rfl | (intros; rfl)
        have w53837 : v53827.toInt ≤ 1600 := by first | omega | assumption | rfl | (intros; rfl)
        have w53838 : 0 ≤ (5 : Int32).toInt := by first | omega | assumption | rfl | (intros; rfl)
        have w53839 : (5 : Int32).toInt ≤ 5 := by first | omega | assumption | rfl | (intros; rfl)
        exact W.vret hx hb hr (fun t ht hW => ⟨⟨((fun _ => fun _ => 0), (fun k => match k with | 0 => v53827 | 1 => 5 | _ => v53828), (fun _ => 0), (fun _ => fun _ => 0)), rfl, ⟨w53836, w53837, w53838, w53839⟩, cE.of ht hP hD [0, 1] (by decide) rfl⟩, hS.F ht⟩) hS.2.2 dX2_readDigits_96
      · have c53835 := i_nlt (a := 4) (b := z53834.toInt) c53835 (by decide) rfl
        refine lv_aload_n hx hb dX2_readDigits_77 rfl (lv_at hl 0 rfl) ?_
        refine lv_aload_n hx hb dX2_readDigits_78 rfl (lv_at hl 0 rfl) ?_
        refine va_get (D := (dC, dI)) (ci := 2) (v := .int v53827) (C := RX2) (T := TX2) (N := 11) hx hb hts hi2 hown hK hP 0 rfl rfl 2 (by decide) (hts _ (ow_m (k := 1) rfl)) (fun _ h9 => h9) rfl dX2_readDigits_79 ?_
        refine gf_i (wr := []) (va_runV (As := [.int v53827]) (rest := [.ref hR]) hfix (k_Re_isLetter l dC dI cyB cyI cyJ cyZ cyO hR ed e_text e_length v53827 e_kind e_start v53828 e_told e_faultKind e_faultPlace e_name v53827 hp _ (by first | omega | assumption) (by first | omega | assumption) (by first | omega | assumption) (by first | omega | assumption) (by first | omega | assumption) (by first | omega | assumption) (by first | omega | assumption) (by first | omega | assumption)) (cwV 1 hts (gi_V (ow_m (k := 5) rfl) (ow_m (k := 6) rfl) (ow_m (k := 7) rfl) (ow_m (k := 8) rfl) (sb_c sb_l) gd_k_Re_isLetter) rfl rfl rfl (by decide +kernel) ⟨Nat.le_of_ble_eq_true rfl, Nat.le_of_ble_eq_true rfl⟩) (g_preV hKN hP hD [0, 1] rfl (by decide) 0 2 rfl rfl) rfl rfl hl.1 rfl (lv_room (Nat.le_of_ble_eq_true rfl)) dX2_readDigits_82 ⟨Nat.le_of_ble_eq_true rfl, Nat.le_of_ble_eq_true rfl⟩) hP hD hS hA [0, 1] [] rfl rfl (by decide) (by decide) (fun r53840 u53841 H locs qu53841 hP hD hS => ?_)
        obtain ⟨b53842, b53843⟩ := qu53841
        have hP : va_P (dC, dI) vwCl [(hR, .inr (2, [.ref (ed 0), .int e_length, .int v53827, .ref hp, .int e_kind, .int e_start, .int v53828, .long e_name, .int e_told, .int e_faultKind, .int e_faultPlace])), (ed 0, .inl (cyB, 1600, .inl e_text))] H := hP
        have hD : va_D A [(hR, .inr (2, [.ref (ed 0), .int e_length, .int v53827, .ref hp, .int e_kind, .int e_start, .int v53828, .long e_name, .int e_told, .int e_faultKind, .int e_faultPlace])), (ed 0, .inl (cyB, 1600, .inl e_text))] := hD
        refine lv_if_eq (tgt := 92) hx hb dX2_readDigits_85 (by decide) (fun c53844 => ?_) (fun c53844 => ?_)
        · have c53844 := i_eq (a := r53840.toInt) (b := 0) c53844 rfl (by decide)
          refine lv_iconst (v := 3) hx hb dX2_readDigits_92 (by decide) ?_
          refine va_put (D := (dC, dI)) (ci := 2) (v := .int 3) (ty := .int) (C := RX2) (T := TX2) (N := 11) hx hb hts hi2 tyX2 tyX2_ok nmX2 hown hK hP hD hS 0 rfl rfl 4 (by decide) (hts _ (ow_m (k := 4) rfl)) (fun _ h9 => h9) rfl (by decide +kernel) rfl rfl (Nat.le_of_ble_eq_true rfl) dX2_readDigits_93 (fun H locs hP hD hS => ?_)
          have hP : va_P (dC, dI) vwCl [(hR, .inr (2, [.ref (ed 0), .int e_length, .int v53827, .ref hp, .int 3, .int e_start, .int v53828, .long e_name, .int e_told, .int e_faultKind, .int e_faultPlace])), (ed 0, .inl (cyB, 1600, .inl e_text))] H := hP
          have hD : va_D A [(hR, .inr (2, [.ref (ed 0), .int e_length, .int v53827, .ref hp, .int 3, .int e_start, .int v53828, .long e_name, .int e_told, .int e_faultKind, .int e_faultPlace])), (ed 0, .inl (cyB, 1600, .inl e_text))] := hD
          have w53845 : 0 ≤ v53827.toInt := by first | omega | assumption | rfl | (intros; rfl)
          have w53846 : v53827.toInt ≤ 1600 := by first | omega | assumption | rfl | (intros; rfl)
          have w53847 : 0 ≤ (3 : Int32).toInt := by first | omega | assumption | rfl | (intros; rfl)
          have w53848 : (3 : Int32).toInt ≤ 5 := by first | omega | assumption | rfl | (intros; rfl)
          exact W.vret hx hb hr (fun t ht hW => ⟨⟨((fun _ => fun _ => 0), (fun k => match k with | 0 => v53827 | 1 => 3 | _ => v53828), (fun _ => 0), (fun _ => fun _ => 0)), rfl, ⟨w53845, w53846, w53847, w53848⟩, cE.of ht hP hD [0, 1] (by decide) rfl⟩, hS.F ht⟩) hS.2.2 dX2_readDigits_96
        · have c53844 := i_ne (a := r53840.toInt) (b := 0) c53844 rfl (by decide)
          refine lv_iconst (v := 5) hx hb dX2_readDigits_88 (by decide) ?_
          refine lv_goto (tgt := 93) hx hb dX2_readDigits_89 (by decide) ?_
          refine va_put (D := (dC, dI)) (ci := 2) (v := .int 5) (ty := .int) (C := RX2) (T := TX2) (N := 11) hx hb hts hi2 tyX2 tyX2_ok nmX2 hown hK hP hD hS 0 rfl rfl 4 (by decide) (hts _ (ow_m (k := 4) rfl)) (fun _ h9 => h9) rfl (by decide +kernel) rfl rfl (Nat.le_of_ble_eq_true rfl) dX2_readDigits_93 (fun H locs hP hD hS => ?_)
          have hP : va_P (dC, dI) vwCl [(hR, .inr (2, [.ref (ed 0), .int e_length, .int v53827, .ref hp, .int 5, .int e_start, .int v53828, .long e_name, .int e_told, .int e_faultKind, .int e_faultPlace])), (ed 0, .inl (cyB, 1600, .inl e_text))] H := hP
          have hD : va_D A [(hR, .inr (2, [.ref (ed 0), .int e_length, .int v53827, .ref hp, .int 5, .int e_start, .int v53828, .long e_name, .int e_told, .int e_faultKind, .int e_faultPlace])), (ed 0, .inl (cyB, 1600, .inl e_text))] := hD
          have w53849 : 0 ≤ v53827.toInt := by first | omega | assumption | rfl | (intros; rfl)
          have w53850 : v53827.toInt ≤ 1600 := by first | omega | assumption | rfl | (intros; rfl)
          have w53851 : 0 ≤ (5 : Int32).toInt := by first | omega | assumption | rfl | (intros; rfl)
          have w53852 : (5 : Int32).toInt ≤ 5 := by first | omega | assumption | rfl | (intros; rfl)
          exact W.vret hx hb hr (fun t ht hW => ⟨⟨((fun _ => fun _ => 0), (fun k => match k with | 0 => v53827 | 1 => 5 | _ => v53828), (fun _ => 0), (fun _ => fun _ => 0)), rfl, ⟨w53849, w53850, w53851, w53852⟩, cE.of ht hP hD [0, 1] (by decide) rfl⟩, hS.F ht⟩) hS.2.2 dX2_readDigits_96
    · have c53833 := i_nle (a := e_length.toInt) (b := v53827.toInt) c53833 rfl rfl
      refine lv_aload_n hx hb dX2_readDigits_16 rfl (lv_at hl 0 rfl) ?_
      refine lv_aload_n hx hb dX2_readDigits_17 rfl (lv_at hl 0 rfl) ?_
      refine va_get (D := (dC, dI)) (ci := 2) (v := .int v53827) (C := RX2) (T := TX2) (N := 11) hx hb hts hi2 hown hK hP 0 rfl rfl 2 (by decide) (hts _ (ow_m (k := 1) rfl)) (fun _ h9 => h9) rfl dX2_readDigits_18 ?_
      refine gf_i (wr := []) (va_runV (As := [.int v53827]) (rest := []) hfix (k_Re_isDigit l dC dI cyB cyI cyJ cyZ cyO hR ed e_text e_length v53827 e_kind e_start v53828 e_told e_faultKind e_faultPlace e_name v53827 hp _ (by first | omega | assumption) (by first | omega | assumption) (by first | omega | assumption) (by first | omega | assumption) (by first | omega | assumption) (by first | omega | assumption) (by first | omega | assumption) (by first | omega | assumption)) (cwV 1 hts (gi_V (ow_m (k := 9) rfl) (ow_m (k := 10) rfl) (ow_m (k := 11) rfl) (ow_m (k := 8) rfl) (sb_c (sb_r sb_l)) gd_k_Re_isDigit) rfl rfl rfl (by decide +kernel) ⟨Nat.le_of_ble_eq_true rfl, Nat.le_of_ble_eq_true rfl⟩) (g_preV hKN hP hD [0, 1] rfl (by decide) 0 2 rfl rfl) rfl rfl hl.1 rfl (lv_room (Nat.le_of_ble_eq_true rfl)) dX2_readDigits_21 ⟨Nat.le_of_ble_eq_true rfl, Nat.le_of_ble_eq_true rfl⟩) hP hD hS hA [0, 1] [] rfl rfl (by decide) (by decide) (fun r53853 u53854 H locs qu53854 hP hD hS => ?_)
      obtain ⟨b53855, b53856⟩ := qu53854
      have hP : va_P (dC, dI) vwCl [(hR, .inr (2, [.ref (ed 0), .int e_length, .int v53827, .ref hp, .int e_kind, .int e_start, .int v53828, .long e_name, .int e_told, .int e_faultKind, .int e_faultPlace])), (ed 0, .inl (cyB, 1600, .inl e_text))] H := hP
      have hD : va_D A [(hR, .inr (2, [.ref (ed 0), .int e_length, .int v53827, .ref hp, .int e_kind, .int e_start, .int v53828, .long e_name, .int e_told, .int e_faultKind, .int e_faultPlace])), (ed 0, .inl (cyB, 1600, .inl e_text))] := hD
      refine lv_if_eq (tgt := 63) hx hb dX2_readDigits_24 (by decide) (fun c53857 => ?_) (fun c53857 => ?_)
      · have c53857 := i_eq (a := r53853.toInt) (b := 0) c53857 rfl (by decide)
        refine lv_aload_n hx hb dX2_readDigits_63 rfl (lv_at hl 0 rfl) ?_
        refine lv_aload_n hx hb dX2_readDigits_64 rfl (lv_at hl 0 rfl) ?_
        refine va_get (D := (dC, dI)) (ci := 2) (v := .int v53827) (C := RX2) (T := TX2) (N := 11) hx hb hts hi2 hown hK hP 0 rfl rfl 2 (by decide) (hts _ (ow_m (k := 1) rfl)) (fun _ h9 => h9) rfl dX2_readDigits_65 ?_
        refine lv_aload_n hx hb dX2_readDigits_68 rfl (lv_at hl 0 rfl) ?_
        refine va_get (D := (dC, dI)) (ci := 2) (v := .int e_start) (C := RX2) (T := TX2) (N := 11) hx hb hts hi2 hown hK hP 0 rfl rfl 5 (by decide) (hts _ (ow_m (k := 3) rfl)) (fun _ h9 => h9) rfl dX2_readDigits_69 ?_
        refine lv_isub hx hb dX2_readDigits_72 ?_
        refine lv_topi (fun z53858 ez53858 => ?_)
        have tz53858 := ti_sub (a := v53827.toInt) (b := e_start.toInt) ez53858 rfl rfl (by omega) (by omega)
        refine lv_iconst (v := 4) hx hb dX2_readDigits_73 (by decide) ?_
        refine lv_icmp_gt (tgt := 88) hx hb dX2_readDigits_74 (by decide) (fun c53859 => ?_) (fun c53859 => ?_)
        · have c53859 := i_lt (a := 4) (b := z53858.toInt) c53859 (by decide) rfl
          refine lv_iconst (v := 5) hx hb dX2_readDigits_88 (by decide) ?_
          refine lv_goto (tgt := 93) hx hb dX2_readDigits_89 (by decide) ?_
          refine va_put (D := (dC, dI)) (ci := 2) (v := .int 5) (ty := .int) (C := RX2) (T := TX2) (N := 11) hx hb hts hi2 tyX2 tyX2_ok nmX2 hown hK hP hD hS 0 rfl rfl 4 (by decide) (hts _ (ow_m (k := 4) rfl)) (fun _ h9 => h9) rfl (by decide +kernel) rfl rfl (Nat.le_of_ble_eq_true rfl) dX2_readDigits_93 (fun H locs hP hD hS => ?_)
          have hP : va_P (dC, dI) vwCl [(hR, .inr (2, [.ref (ed 0), .int e_length, .int v53827, .ref hp, .int 5, .int e_start, .int v53828, .long e_name, .int e_told, .int e_faultKind, .int e_faultPlace])), (ed 0, .inl (cyB, 1600, .inl e_text))] H := hP
          have hD : va_D A [(hR, .inr (2, [.ref (ed 0), .int e_length, .int v53827, .ref hp, .int 5, .int e_start, .int v53828, .long e_name, .int e_told, .int e_faultKind, .int e_faultPlace])), (ed 0, .inl (cyB, 1600, .inl e_text))] := hD
          have w53860 : 0 ≤ v53827.toInt := by first | omega | assumption | rfl | (intros; rfl)
          have w53861 : v53827.toInt ≤ 1600 := by first | omega | assumption | rfl | (intros; rfl)
          have w53862 : 0 ≤ (5 : Int32).toInt := by first | omega | assumption | rfl | (intros; rfl)
          have w53863 : (5 : Int32).toInt ≤ 5 := by first | omega | assumption | rfl | (intros; rfl)
          exact W.vret hx hb hr (fun t ht hW => ⟨⟨((fun _ => fun _ => 0), (fun k => match k with | 0 => v53827 | 1 => 5 | _ => v53828), (fun _ => 0), (fun _ => fun _ => 0)), rfl, ⟨w53860, w53861, w53862, w53863⟩, cE.of ht hP hD [0, 1] (by decide) rfl⟩, hS.F ht⟩) hS.2.2 dX2_readDigits_96
        · have c53859 := i_nlt (a := 4) (b := z53858.toInt) c53859 (by decide) rfl
          refine lv_aload_n hx hb dX2_readDigits_77 rfl (lv_at hl 0 rfl) ?_
          refine lv_aload_n hx hb dX2_readDigits_78 rfl (lv_at hl 0 rfl) ?_
          refine va_get (D := (dC, dI)) (ci := 2) (v := .int v53827) (C := RX2) (T := TX2) (N := 11) hx hb hts hi2 hown hK hP 0 rfl rfl 2 (by decide) (hts _ (ow_m (k := 1) rfl)) (fun _ h9 => h9) rfl dX2_readDigits_79 ?_
          refine gf_i (wr := []) (va_runV (As := [.int v53827]) (rest := [.ref hR]) hfix (k_Re_isLetter l dC dI cyB cyI cyJ cyZ cyO hR ed e_text e_length v53827 e_kind e_start v53828 e_told e_faultKind e_faultPlace e_name v53827 hp _ (by first | omega | assumption) (by first | omega | assumption) (by first | omega | assumption) (by first | omega | assumption) (by first | omega | assumption) (by first | omega | assumption) (by first | omega | assumption) (by first | omega | assumption)) (cwV 1 hts (gi_V (ow_m (k := 5) rfl) (ow_m (k := 6) rfl) (ow_m (k := 7) rfl) (ow_m (k := 8) rfl) (sb_c sb_l) gd_k_Re_isLetter) rfl rfl rfl (by decide +kernel) ⟨Nat.le_of_ble_eq_true rfl, Nat.le_of_ble_eq_true rfl⟩) (g_preV hKN hP hD [0, 1] rfl (by decide) 0 2 rfl rfl) rfl rfl hl.1 rfl (lv_room (Nat.le_of_ble_eq_true rfl)) dX2_readDigits_82 ⟨Nat.le_of_ble_eq_true rfl, Nat.le_of_ble_eq_true rfl⟩) hP hD hS hA [0, 1] [] rfl rfl (by decide) (by decide) (fun r53864 u53865 H locs qu53865 hP hD hS => ?_)
          obtain ⟨b53866, b53867⟩ := qu53865
          have hP : va_P (dC, dI) vwCl [(hR, .inr (2, [.ref (ed 0), .int e_length, .int v53827, .ref hp, .int e_kind, .int e_start, .int v53828, .long e_name, .int e_told, .int e_faultKind, .int e_faultPlace])), (ed 0, .inl (cyB, 1600, .inl e_text))] H := hP
          have hD : va_D A [(hR, .inr (2, [.ref (ed 0), .int e_length, .int v53827, .ref hp, .int e_kind, .int e_start, .int v53828, .long e_name, .int e_told, .int e_faultKind, .int e_faultPlace])), (ed 0, .inl (cyB, 1600, .inl e_text))] := hD
          refine lv_if_eq (tgt := 92) hx hb dX2_readDigits_85 (by decide) (fun c53868 => ?_) (fun c53868 => ?_)
          · have c53868 := i_eq (a := r53864.toInt) (b := 0) c53868 rfl (by decide)
            refine lv_iconst (v := 3) hx hb dX2_readDigits_92 (by decide) ?_
            refine va_put (D := (dC, dI)) (ci := 2) (v := .int 3) (ty := .int) (C := RX2) (T := TX2) (N := 11) hx hb hts hi2 tyX2 tyX2_ok nmX2 hown hK hP hD hS 0 rfl rfl 4 (by decide) (hts _ (ow_m (k := 4) rfl)) (fun _ h9 => h9) rfl (by decide +kernel) rfl rfl (Nat.le_of_ble_eq_true rfl) dX2_readDigits_93 (fun H locs hP hD hS => ?_)
            have hP : va_P (dC, dI) vwCl [(hR, .inr (2, [.ref (ed 0), .int e_length, .int v53827, .ref hp, .int 3, .int e_start, .int v53828, .long e_name, .int e_told, .int e_faultKind, .int e_faultPlace])), (ed 0, .inl (cyB, 1600, .inl e_text))] H := hP
            have hD : va_D A [(hR, .inr (2, [.ref (ed 0), .int e_length, .int v53827, .ref hp, .int 3, .int e_start, .int v53828, .long e_name, .int e_told, .int e_faultKind, .int e_faultPlace])), (ed 0, .inl (cyB, 1600, .inl e_text))] := hD
            have w53869 : 0 ≤ v53827.toInt := by first | omega | assumption | rfl | (intros; rfl)
            have w53870 : v53827.toInt ≤ 1600 := by first | omega | assumption | rfl | (intros; rfl)
            have w53871 : 0 ≤ (3 : Int32).toInt := by first | omega | assumption | rfl | (intros; rfl)
            have w53872 : (3 : Int32).toInt ≤ 5 := by first | omega | assumption | rfl | (intros; rfl)
            exact W.vret hx hb hr (fun t ht hW => ⟨⟨((fun _ => fun _ => 0), (fun k => match k with | 0 => v53827 | 1 => 3 | _ => v53828), (fun _ => 0), (fun _ => fun _ => 0)), rfl, ⟨w53869, w53870, w53871, w53872⟩, cE.of ht hP hD [0, 1] (by decide) rfl⟩, hS.F ht⟩) hS.2.2 dX2_readDigits_96
          · have c53868 := i_ne (a := r53864.toInt) (b := 0) c53868 rfl (by decide)
            refine lv_iconst (v := 5) hx hb dX2_readDigits_88 (by decide) ?_
            refine lv_goto (tgt := 93) hx hb dX2_readDigits_89 (by decide) ?_
            refine va_put (D := (dC, dI)) (ci := 2) (v := .int 5) (ty := .int) (C := RX2) (T := TX2) (N := 11) hx hb hts hi2 tyX2 tyX2_ok nmX2 hown hK hP hD hS 0 rfl rfl 4 (by decide) (hts _ (ow_m (k := 4) rfl)) (fun _ h9 => h9) rfl (by decide +kernel) rfl rfl (Nat.le_of_ble_eq_true rfl) dX2_readDigits_93 (fun H locs hP hD hS => ?_)
            have hP : va_P (dC, dI) vwCl [(hR, .inr (2, [.ref (ed 0), .int e_length, .int v53827, .ref hp, .int 5, .int e_start, .int v53828, .long e_name, .int e_told, .int e_faultKind, .int e_faultPlace])), (ed 0, .inl (cyB, 1600, .inl e_text))] H := hP
            have hD : va_D A [(hR, .inr (2, [.ref (ed 0), .int e_length, .int v53827, .ref hp, .int 5, .int e_start, .int v53828, .long e_name, .int e_told, .int e_faultKind, .int e_faultPlace])), (ed 0, .inl (cyB, 1600, .inl e_text))] := hD
            have w53873 : 0 ≤ v53827.toInt := by first | omega | assumption | rfl | (intros; rfl)
            have w53874 : v53827.toInt ≤ 1600 := by first | omega | assumption | rfl | (intros; rfl)
            have w53875 : 0 ≤ (5 : Int32).toInt := by first | omega | assumption | rfl | (intros; rfl)
            have w53876 : (5 : Int32).toInt ≤ 5 := by first | omega | assumption | rfl | (intros; rfl)
            exact W.vret hx hb hr (fun t ht hW => ⟨⟨((fun _ => fun _ => 0), (fun k => match k with | 0 => v53827 | 1 => 5 | _ => v53828), (fun _ => 0), (fun _ => fun _ => 0)), rfl, ⟨w53873, w53874, w53875, w53876⟩, cE.of ht hP hD [0, 1] (by decide) rfl⟩, hS.F ht⟩) hS.2.2 dX2_readDigits_96
      · have c53857 := i_ne (a := r53853.toInt) (b := 0) c53857 rfl (by decide)
        refine lv_aload_n hx hb dX2_readDigits_27 rfl (lv_at hl 0 rfl) ?_
        refine lv_aload_n hx hb dX2_readDigits_28 rfl (lv_at hl 0 rfl) ?_
        refine va_get (D := (dC, dI)) (ci := 2) (v := .int v53828) (C := RX2) (T := TX2) (N := 11) hx hb hts hi2 hown hK hP 0 rfl rfl 6 (by decide) (hts _ (ow_m (k := 0) rfl)) (fun _ h9 => h9) rfl dX2_readDigits_29 ?_
        refine lv_bipush (v := 10) hx hb dX2_readDigits_32 (by decide) ?_
        refine lv_imul hx hb dX2_readDigits_34 ?_
        refine lv_topi (fun z53877 ez53877 => ?_)
        refine lv_aload_n hx hb dX2_readDigits_35 rfl (lv_at hl 0 rfl) ?_
        refine lv_aload_n hx hb dX2_readDigits_36 rfl (lv_at hl 0 rfl) ?_
        refine va_get (D := (dC, dI)) (ci := 2) (v := .int v53827) (C := RX2) (T := TX2) (N := 11) hx hb hts hi2 hown hK hP 0 rfl rfl 2 (by decide) (hts _ (ow_m (k := 1) rfl)) (fun _ h9 => h9) rfl dX2_readDigits_37 ?_
        refine gf_i (wr := []) (va_runV (As := [.int v53827]) (rest := [.int z53877, .ref hR]) hfix (k_Re_byteAt l dC dI cyB cyI cyJ cyZ cyO hR ed e_text e_length v53827 e_kind e_start v53828 e_told e_faultKind e_faultPlace e_name v53827 hp _ (by first | omega | assumption) (by first | omega | assumption) (by first | omega | assumption) (by first | omega | assumption) (by first | omega | assumption) (by first | omega | assumption) (by first | omega | assumption) (by first | omega | assumption)) (cwV 1 hts (gi_V (ow_m (k := 12) rfl) (ow_m (k := 13) rfl) (ow_m (k := 14) rfl) (ow_m (k := 8) rfl) (sb_c (sb_r (sb_r sb_l))) gd_k_Re_byteAt) rfl rfl rfl (by decide +kernel) ⟨Nat.le_of_ble_eq_true rfl, Nat.le_of_ble_eq_true rfl⟩) (g_preV hKN hP hD [0, 1] rfl (by decide) 0 2 rfl rfl) rfl rfl hl.1 rfl (lv_room (Nat.le_of_ble_eq_true rfl)) dX2_readDigits_40 ⟨Nat.le_of_ble_eq_true rfl, Nat.le_of_ble_eq_true rfl⟩) hP hD hS hA [0, 1] [] rfl rfl (by decide) (by decide) (fun r53878 u53879 H locs qu53879 hP hD hS => ?_)
        obtain ⟨b53880, b53881⟩ := qu53879
        have hP : va_P (dC, dI) vwCl [(hR, .inr (2, [.ref (ed 0), .int e_length, .int v53827, .ref hp, .int e_kind, .int e_start, .int v53828, .long e_name, .int e_told, .int e_faultKind, .int e_faultPlace])), (ed 0, .inl (cyB, 1600, .inl e_text))] H := hP
        have hD : va_D A [(hR, .inr (2, [.ref (ed 0), .int e_length, .int v53827, .ref hp, .int e_kind, .int e_start, .int v53828, .long e_name, .int e_told, .int e_faultKind, .int e_faultPlace])), (ed 0, .inl (cyB, 1600, .inl e_text))] := hD
        refine lv_bipush (v := 48) hx hb dX2_readDigits_43 (by decide) ?_
        refine lv_isub hx hb dX2_readDigits_45 ?_
        refine lv_topi (fun z53882 ez53882 => ?_)
        have tz53882 := ti_sub (a := r53878.toInt) (b := 48) ez53882 rfl (by decide) (by omega) (by omega)
        refine lv_iadd hx hb dX2_readDigits_46 ?_
        refine lv_topi (fun z53883 ez53883 => ?_)
        refine va_put (D := (dC, dI)) (ci := 2) (v := .int z53883) (ty := .int) (C := RX2) (T := TX2) (N := 11) hx hb hts hi2 tyX2 tyX2_ok nmX2 hown hK hP hD hS 0 rfl rfl 6 (by decide) (hts _ (ow_m (k := 0) rfl)) (fun _ h9 => h9) rfl (by decide +kernel) rfl rfl (Nat.le_of_ble_eq_true rfl) dX2_readDigits_47 (fun H locs hP hD hS => ?_)
        have hP : va_P (dC, dI) vwCl [(hR, .inr (2, [.ref (ed 0), .int e_length, .int v53827, .ref hp, .int e_kind, .int e_start, .int z53883, .long e_name, .int e_told, .int e_faultKind, .int e_faultPlace])), (ed 0, .inl (cyB, 1600, .inl e_text))] H := hP
        have hD : va_D A [(hR, .inr (2, [.ref (ed 0), .int e_length, .int v53827, .ref hp, .int e_kind, .int e_start, .int z53883, .long e_name, .int e_told, .int e_faultKind, .int e_faultPlace])), (ed 0, .inl (cyB, 1600, .inl e_text))] := hD
        refine lv_aload_n hx hb dX2_readDigits_50 rfl (lv_at hl 0 rfl) ?_
        refine lv_dup hx hb dX2_readDigits_51 rfl ?_
        refine va_get (D := (dC, dI)) (ci := 2) (v := .int v53827) (C := RX2) (T := TX2) (N := 11) hx hb hts hi2 hown hK hP 0 rfl rfl 2 (by decide) (hts _ (ow_m (k := 1) rfl)) (fun _ h9 => h9) rfl dX2_readDigits_52 ?_
        refine lv_iconst (v := 1) hx hb dX2_readDigits_55 (by decide) ?_
        refine lv_iadd hx hb dX2_readDigits_56 ?_
        refine lv_topi (fun z53884 ez53884 => ?_)
        have tz53884 := ti_add (a := v53827.toInt) (b := 1) ez53884 rfl (by decide) (by omega) (by omega)
        refine va_put (D := (dC, dI)) (ci := 2) (v := .int z53884) (ty := .int) (C := RX2) (T := TX2) (N := 11) hx hb hts hi2 tyX2 tyX2_ok nmX2 hown hK hP hD hS 0 rfl rfl 2 (by decide) (hts _ (ow_m (k := 1) rfl)) (fun _ h9 => h9) rfl (by decide +kernel) rfl rfl (Nat.le_of_ble_eq_true rfl) dX2_readDigits_57 (fun H locs hP hD hS => ?_)
        have hP : va_P (dC, dI) vwCl [(hR, .inr (2, [.ref (ed 0), .int e_length, .int z53884, .ref hp, .int e_kind, .int e_start, .int z53883, .long e_name, .int e_told, .int e_faultKind, .int e_faultPlace])), (ed 0, .inl (cyB, 1600, .inl e_text))] H := hP
        have hD : va_D A [(hR, .inr (2, [.ref (ed 0), .int e_length, .int z53884, .ref hp, .int e_kind, .int e_start, .int z53883, .long e_name, .int e_told, .int e_faultKind, .int e_faultPlace])), (ed 0, .inl (cyB, 1600, .inl e_text))] := hD
        refine lv_goto (tgt := 5) hx hb dX2_readDigits_60 (by decide) ?_
        have hl := lv_sub (l' := [(0, .ref hR)]) hl [0] rfl
        apply ih53832 (v53827 := z53884) (v53828 := z53883) (H := H) (locs := locs) (ls := ls) <;> first | assumption | omega
def wo_k_Re_advance : List Cond := [.fieldLink RX2 32 "ReplicaChain$Reader" "at" "I", .fieldLink RX2 29 "ReplicaChain$Reader" "length" "I", .fieldLink RX2 59 "ReplicaChain$Reader" "start" "I", .methodLink RX2 167 yX2_isLetter, .instanceMethod yX2_isLetter, .selects RX2 yX2_isLetter yX2_isLetter, .initialized RX2, .methodLink RX2 173 yX2_isDigit, .instanceMethod yX2_isDigit, .selects RX2 yX2_isDigit yX2_isDigit, .methodLink RX2 163 yX2_byteAt, .instanceMethod yX2_byteAt, .selects RX2 yX2_byteAt yX2_byteAt, .fieldLink RX2 62 "ReplicaChain$Reader" "number" "I", .methodLink RX2 181 yJ0_indexOf_0f7a4, .instanceMethod yJ0_indexOf_0f7a4, .selects RJ0 yJ0_indexOf_0f7a4 yJ0_indexOf_0f7a4, .initialized RJ0, .fieldLink RX2 53 "ReplicaChain$Reader" "kind" "I", .methodLink RX2 176 yX2_readDigits, .instanceMethod yX2_readDigits, .selects RX2 yX2_readDigits yX2_readDigits, .methodLink RX2 170 yX2_readLetters, .instanceMethod yX2_readLetters, .selects RX2 yX2_readLetters yX2_readLetters]
def wq_k_Re_advance : List Cond := .code yX2_advance cX2_advance 1 none :: (wo_k_Re_advance ++ (wq_k_Re_isLetter ++ (wq_k_Re_isDigit ++ (wq_k_Re_byteAt ++ (wq_j_ix ++ (wq_k_Re_readDigits ++ (wq_k_Re_readLetters ++ (wsX20 ++ []))))))))
theorem gd_k_Re_advance : Gd wq_k_Re_advance := gd_c (gd_a (gd_o (by decide +kernel)) (gd_a gd_k_Re_isLetter (gd_a gd_k_Re_isDigit (gd_a gd_k_Re_byteAt (gd_a gd_j_ix (gd_a gd_k_Re_readDigits (gd_a gd_k_Re_readLetters (gd_a gd_u gd_0))))))))
abbrev wc_k_Re_advance (cyB cyI cyJ cyZ cyO : ClassId) (hR : Nat) (ed : Nat → Nat) (e_text : Nat → Int32) (e_length : Int32) (e_at : Int32) (e_kind : Int32) (e_start : Int32) (e_number : Int32) (e_told : Int32) (e_faultKind : Int32) (e_faultPlace : Int32) (e_name : Int64) (hp : Nat) : va_W := [(hR, .inr (2, [.ref (ed 0), .int e_length, .int e_at, .ref hp, .int e_kind, .int e_start, .int e_number, .long e_name, .int e_told, .int e_faultKind, .int e_faultPlace])), (ed 0, .inl (cyB, 1600, .inl e_text))]
set_option maxHeartbeats 4000000 in
set_option maxRecDepth 100000 in
theorem k_Re_advance (l : Launch) (dC : Nat → ClassId) (dI : Nat → Nat → Nat) (cyB cyI cyJ cyZ cyO : ClassId) (adK adV : Nat → Nat) (hR : Nat) (ed : Nat → Nat) (e_text : Nat → Int32) (e_length : Int32) (e_at : Int32) (e_kind : Int32) (e_start : Int32) (e_number : Int32) (e_told : Int32) (e_faultKind : Int32) (e_faultPlace : Int32) (e_name : Int64) (hp : Nat) (sz : Nat) (l_e_length : 0 ≤ e_length.toInt) (u_e_length : e_length.toInt ≤ 1600) (l_e_at : 0 ≤ e_at.toInt) (u_e_at : e_at.toInt ≤ 1600) (l_e_kind : 0 ≤ e_kind.toInt) (u_e_kind : e_kind.toInt ≤ 5) (l_e_start : 0 ≤ e_start.toInt) (u_e_start : e_start.toInt ≤ 1600) : Met l yX2_advance wq_k_Re_advance ({ frames := 6, cells := 0, slots := 0, locals := 129 }) (va_Pc [.ref hR] (cBZ (dC, dI) (kT cyB cyI cyJ cyZ cyO) adK adV (wc_k_Re_advance cyB cyI cyJ cyZ cyO hR ed e_text e_length e_at e_kind e_start e_number e_told e_faultKind e_faultPlace e_name hp) sz)) (va_Qv (fun (u : ST4) => (0 ≤ (u.2.1 0).toInt) ∧ ((u.2.1 0).toInt ≤ 1600) ∧ (0 ≤ (u.2.1 1).toInt) ∧ ((u.2.1 1).toInt ≤ 5) ∧ (0 ≤ (u.2.1 2).toInt) ∧ ((u.2.1 2).toInt ≤ 1600)) (fun (u : ST4) t => cE (dC, dI) (va_A (wc_k_Re_advance cyB cyI cyJ cyZ cyO hR ed e_text e_length e_at e_kind e_start e_number e_told e_faultKind e_faultPlace e_name hp) sz) ([(hR, .inr (2, [.ref (ed 0), .int e_length, .int (u.2.1 0), .ref hp, .int (u.2.1 1), .int (u.2.1 2), .int (u.2.1 3), .long (u.2.2.1 0), .int e_told, .int e_faultKind, .int e_faultPlace])), (ed 0, .inl (cyB, 1600, .inl e_text))]) t.heap) (va_A (wc_k_Re_advance cyB cyI cyJ cyZ cyO hR ed e_text e_length e_at e_kind e_start e_number e_told e_faultKind e_faultPlace e_name hp) sz)) 0 0 (va_A (wc_k_Re_advance cyB cyI cyJ cyZ cyO hR ed e_text e_length e_at e_kind e_start e_number e_told e_faultKind e_faultPlace e_name hp) sz) := by
  refine Met.ofW (cc := cX2_advance) (maxL := 1) (ret := none) (by decide) rfl ?_
  intro p e s m args below meth c s₁ B hml hv
  obtain ⟨rfl, ⟨hsz, hP, hKN, hD0⟩, hZ⟩ := hv
  have hx := B.exec
  have hb := B.bytes
  have hr := B.returns
  have hts := atoms_spec (ws := wq_k_Re_advance) B.pre
  have hown : s.vm.findClass RX2 = some m.cls := findClass_of_methodNamed B.named
  have hlocks := B.notSynchronized
  have hK := hKN.1
  have hfix : CallFix p m c cX2_advance 1 s [.ref hR].toArray wq_k_Re_advance RX2 := ⟨hx, hb, hml, hown, hts⟩
  have hi2 : ∀ w ∈ wsX20, w ∈ wq_k_Re_advance := (sb_c (sb_r (sb_r (sb_r (sb_r (sb_r (sb_r sb_l)))))))
  subst hsz
  have hD := hD0.self (sz := s.heap.size)
  generalize hAe : va_A (wc_k_Re_advance cyB cyI cyJ cyZ cyO hR ed e_text e_length e_at e_kind e_start e_number e_told e_faultKind e_faultPlace e_name hp) s.heap.size = A at hD hZ ⊢
  have hA : ∀ q : Nat, s.heap.size ≤ q → A q := fun q h => by rw [← hAe]; exact Or.inr h
  have hS : va_S A s.heap s.heap [] := va_S.rf
  have hl := lv_entry ([.ref hR]) (n := 1) (Nat.le_of_ble_eq_true rfl)
  rw [lg_entry_eq]
  generalize (lg_sl ([.ref hR]) ++ List.replicate (1 - (lg_sl ([.ref hR])).length) Slot.unset).toArray = ls at hl ⊢
  have hl : lv_has ls 1 [(0, .ref hR)] := hl
  have ck0 : (0 : Int32).toInt = 0 := by decide
  have ck4 : (4 : Int32).toInt = 4 := by decide
  have ck5 : (5 : Int32).toInt = 5 := by decide
  refine w_gen (fun H locs ls hP hS hl => ?_) hP hS hl
  obtain ⟨v54149, hl2, hP2, hD2, b54150, b54151⟩ : ∃ (v54149 : Int32), lv_has ls 1 [(0, .ref hR)] ∧ va_P (dC, dI) vwCl [(hR, .inr (2, [.ref (ed 0), .int e_length, .int v54149, .ref hp, .int e_kind, .int e_start, .int e_number, .long e_name, .int e_told, .int e_faultKind, .int e_faultPlace])), (ed 0, .inl (cyB, 1600, .inl e_text))] H ∧ va_D A [(hR, .inr (2, [.ref (ed 0), .int e_length, .int v54149, .ref hp, .int e_kind, .int e_start, .int e_number, .long e_name, .int e_told, .int e_faultKind, .int e_faultPlace])), (ed 0, .inl (cyB, 1600, .inl e_text))] ∧ (0 ≤ v54149.toInt) ∧ (v54149.toInt ≤ 1600) := ⟨e_at, hl, hP, hD, by first | assumption | omega, by first | assumption | omega⟩
  clear hP hl
  have hP := hP2
  have hD := hD2
  have hl := hl2
  clear hP2 hD2 hl2
  obtain ⟨n54152, hn54152⟩ : ∃ n : Nat, max (e_length.toInt - v54149.toInt) 0 < (n : Int) := ⟨(max (e_length.toInt - v54149.toInt) 0).toNat + 1, by omega⟩
  induction n54152 generalizing v54149 H locs ls with
  | zero => exfalso; omega
  | succ n54152 ih54153 =>
    refine lv_aload_n hx hb dX2_advance_0 rfl (lv_at hl 0 rfl) ?_
    refine va_get (D := (dC, dI)) (ci := 2) (v := .int v54149) (C := RX2) (T := TX2) (N := 11) hx hb hts hi2 hown hK hP 0 rfl rfl 2 (by decide) (hts _ (ow_m (k := 0) rfl)) (fun _ h9 => h9) rfl dX2_advance_1 ?_
    refine lv_aload_n hx hb dX2_advance_4 rfl (lv_at hl 0 rfl) ?_
    refine va_get (D := (dC, dI)) (ci := 2) (v := .int e_length) (C := RX2) (T := TX2) (N := 11) hx hb hts hi2 hown hK hP 0 rfl rfl 1 (by decide) (hts _ (ow_m (k := 1) rfl)) (fun _ h9 => h9) rfl dX2_advance_5 ?_
    refine lv_icmp_ge (tgt := 50) hx hb dX2_advance_8 (by decide) (fun c54154 => ?_) (fun c54154 => ?_)
    · have c54154 := i_le (a := e_length.toInt) (b := v54149.toInt) c54154 rfl rfl
      refine lv_aload_n hx hb dX2_advance_50 rfl (lv_at hl 0 rfl) ?_
      refine lv_aload_n hx hb dX2_advance_51 rfl (lv_at hl 0 rfl) ?_
      refine va_get (D := (dC, dI)) (ci := 2) (v := .int v54149) (C := RX2) (T := TX2) (N := 11) hx hb hts hi2 hown hK hP 0 rfl rfl 2 (by decide) (hts _ (ow_m (k := 0) rfl)) (fun _ h9 => h9) rfl dX2_advance_52 ?_
      refine va_put (D := (dC, dI)) (ci := 2) (v := .int v54149) (ty := .int) (C := RX2) (T := TX2) (N := 11) hx hb hts hi2 tyX2 tyX2_ok nmX2 hown hK hP hD hS 0 rfl rfl 5 (by decide) (hts _ (ow_m (k := 2) rfl)) (fun _ h9 => h9) rfl (by decide +kernel) rfl rfl (Nat.le_of_ble_eq_true rfl) dX2_advance_55 (fun H locs hP hD hS => ?_)
      have hP : va_P (dC, dI) vwCl [(hR, .inr (2, [.ref (ed 0), .int e_length, .int v54149, .ref hp, .int e_kind, .int v54149, .int e_number, .long e_name, .int e_told, .int e_faultKind, .int e_faultPlace])), (ed 0, .inl (cyB, 1600, .inl e_text))] H := hP
      have hD : va_D A [(hR, .inr (2, [.ref (ed 0), .int e_length, .int v54149, .ref hp, .int e_kind, .int v54149, .int e_number, .long e_name, .int e_told, .int e_faultKind, .int e_faultPlace])), (ed 0, .inl (cyB, 1600, .inl e_text))] := hD
      refine lv_aload_n hx hb dX2_advance_58 rfl (lv_at hl 0 rfl) ?_
      refine va_get (D := (dC, dI)) (ci := 2) (v := .int v54149) (C := RX2) (T := TX2) (N := 11) hx hb hts hi2 hown hK hP 0 rfl rfl 2 (by decide) (hts _ (ow_m (k := 0) rfl)) (fun _ h9 => h9) rfl dX2_advance_59 ?_
      refine lv_aload_n hx hb dX2_advance_62 rfl (lv_at hl 0 rfl) ?_
      refine va_get (D := (dC, dI)) (ci := 2) (v := .int e_length) (C := RX2) (T := TX2) (N := 11) hx hb hts hi2 hown hK hP 0 rfl rfl 1 (by decide) (hts _ (ow_m (k := 1) rfl)) (fun _ h9 => h9) rfl dX2_advance_63 ?_
      refine lv_icmp_lt (tgt := 77) hx hb dX2_advance_66 (by decide) (fun c54155 => ?_) (fun c54155 => ?_)
      · have c54155 := i_lt (a := v54149.toInt) (b := e_length.toInt) c54155 rfl rfl
        refine lv_aload_n hx hb dX2_advance_77 rfl (lv_at hl 0 rfl) ?_
        refine lv_aload_n hx hb dX2_advance_78 rfl (lv_at hl 0 rfl) ?_
        refine va_get (D := (dC, dI)) (ci := 2) (v := .int v54149) (C := RX2) (T := TX2) (N := 11) hx hb hts hi2 hown hK hP 0 rfl rfl 2 (by decide) (hts _ (ow_m (k := 0) rfl)) (fun _ h9 => h9) rfl dX2_advance_79 ?_
        refine gf_i (wr := []) (va_runV (As := [.int v54149]) (rest := []) hfix (k_Re_isLetter l dC dI cyB cyI cyJ cyZ cyO hR ed e_text e_length v54149 e_kind v54149 e_number e_told e_faultKind e_faultPlace e_name v54149 hp _ (by first | omega | assumption) (by first | omega | assumption) (by first | omega | assumption) (by first | omega | assumption) (by first | omega | assumption) (by first | omega | assumption) (by first | omega | assumption) (by first | omega | assumption)) (cwV 1 hts (gi_V (ow_m (k := 3) rfl) (ow_m (k := 4) rfl) (ow_m (k := 5) rfl) (ow_m (k := 6) rfl) (sb_c sb_l) gd_k_Re_isLetter) rfl rfl rfl (by decide +kernel) ⟨Nat.le_of_ble_eq_true rfl, Nat.le_of_ble_eq_true rfl⟩) (g_preV hKN hP hD [0, 1] rfl (by decide) 0 2 rfl rfl) rfl rfl hl.1 rfl (lv_room (Nat.le_of_ble_eq_true rfl)) dX2_advance_82 ⟨Nat.le_of_ble_eq_true rfl, Nat.le_of_ble_eq_true rfl⟩) hP hD hS hA [0, 1] [] rfl rfl (by decide) (by decide) (fun r54156 u54157 H locs qu54157 hP hD hS => ?_)
        obtain ⟨b54158, b54159⟩ := qu54157
        have hP : va_P (dC, dI) vwCl [(hR, .inr (2, [.ref (ed 0), .int e_length, .int v54149, .ref hp, .int e_kind, .int v54149, .int e_number, .long e_name, .int e_told, .int e_faultKind, .int e_faultPlace])), (ed 0, .inl (cyB, 1600, .inl e_text))] H := hP
        have hD : va_D A [(hR, .inr (2, [.ref (ed 0), .int e_length, .int v54149, .ref hp, .int e_kind, .int v54149, .int e_number, .long e_name, .int e_told, .int e_faultKind, .int e_faultPlace])), (ed 0, .inl (cyB, 1600, .inl e_text))] := hD
        refine lv_if_eq (tgt := 95) hx hb dX2_advance_85 (by decide) (fun c54160 => ?_) (fun c54160 => ?_)
        · have c54160 := i_eq (a := r54156.toInt) (b := 0) c54160 rfl (by decide)
          refine lv_aload_n hx hb dX2_advance_95 rfl (lv_at hl 0 rfl) ?_
          refine lv_aload_n hx hb dX2_advance_96 rfl (lv_at hl 0 rfl) ?_
          refine va_get (D := (dC, dI)) (ci := 2) (v := .int v54149) (C := RX2) (T := TX2) (N := 11) hx hb hts hi2 hown hK hP 0 rfl rfl 2 (by decide) (hts _ (ow_m (k := 0) rfl)) (fun _ h9 => h9) rfl dX2_advance_97 ?_
          refine gf_i (wr := []) (va_runV (As := [.int v54149]) (rest := []) hfix (k_Re_isDigit l dC dI cyB cyI cyJ cyZ cyO hR ed e_text e_length v54149 e_kind v54149 e_number e_told e_faultKind e_faultPlace e_name v54149 hp _ (by first | omega | assumption) (by first | omega | assumption) (by first | omega | assumption) (by first | omega | assumption) (by first | omega | assumption) (by first | omega | assumption) (by first | omega | assumption) (by first | omega | assumption)) (cwV 1 hts (gi_V (ow_m (k := 7) rfl) (ow_m (k := 8) rfl) (ow_m (k := 9) rfl) (ow_m (k := 6) rfl) (sb_c (sb_r sb_l)) gd_k_Re_isDigit) rfl rfl rfl (by decide +kernel) ⟨Nat.le_of_ble_eq_true rfl, Nat.le_of_ble_eq_true rfl⟩) (g_preV hKN hP hD [0, 1] rfl (by decide) 0 2 rfl rfl) rfl rfl hl.1 rfl (lv_room (Nat.le_of_ble_eq_true rfl)) dX2_advance_100 ⟨Nat.le_of_ble_eq_true rfl, Nat.le_of_ble_eq_true rfl⟩) hP hD hS hA [0, 1] [] rfl rfl (by decide) (by decide) (fun r54161 u54162 H locs qu54162 hP hD hS => ?_)
          obtain ⟨b54163, b54164⟩ := qu54162
          have hP : va_P (dC, dI) vwCl [(hR, .inr (2, [.ref (ed 0), .int e_length, .int v54149, .ref hp, .int e_kind, .int v54149, .int e_number, .long e_name, .int e_told, .int e_faultKind, .int e_faultPlace])), (ed 0, .inl (cyB, 1600, .inl e_text))] H := hP
          have hD : va_D A [(hR, .inr (2, [.ref (ed 0), .int e_length, .int v54149, .ref hp, .int e_kind, .int v54149, .int e_number, .long e_name, .int e_told, .int e_faultKind, .int e_faultPlace])), (ed 0, .inl (cyB, 1600, .inl e_text))] := hD
          refine lv_if_eq (tgt := 113) hx hb dX2_advance_103 (by decide) (fun c54165 => ?_) (fun c54165 => ?_)
          · have c54165 := i_eq (a := r54161.toInt) (b := 0) c54165 rfl (by decide)
            refine lv_aload_n hx hb dX2_advance_113 rfl (lv_at hl 0 rfl) ?_
            refine lv_aload_n hx hb dX2_advance_114 rfl (lv_at hl 0 rfl) ?_
            refine lv_aload_n hx hb dX2_advance_115 rfl (lv_at hl 0 rfl) ?_
            refine va_get (D := (dC, dI)) (ci := 2) (v := .int v54149) (C := RX2) (T := TX2) (N := 11) hx hb hts hi2 hown hK hP 0 rfl rfl 2 (by decide) (hts _ (ow_m (k := 0) rfl)) (fun _ h9 => h9) rfl dX2_advance_116 ?_
            refine gf_i (wr := []) (va_runV (As := [.int v54149]) (rest := [.ref hR]) hfix (k_Re_byteAt l dC dI cyB cyI cyJ cyZ cyO hR ed e_text e_length v54149 e_kind v54149 e_number e_told e_faultKind e_faultPlace e_name v54149 hp _ (by first | omega | assumption) (by first | omega | assumption) (by first | omega | assumption) (by first | omega | assumption) (by first | omega | assumption) (by first | omega | assumption) (by first | omega | assumption) (by first | omega | assumption)) (cwV 1 hts (gi_V (ow_m (k := 10) rfl) (ow_m (k := 11) rfl) (ow_m (k := 12) rfl) (ow_m (k := 6) rfl) (sb_c (sb_r (sb_r sb_l))) gd_k_Re_byteAt) rfl rfl rfl (by decide +kernel) ⟨Nat.le_of_ble_eq_true rfl, Nat.le_of_ble_eq_true rfl⟩) (g_preV hKN hP hD [0, 1] rfl (by decide) 0 2 rfl rfl) rfl rfl hl.1 rfl (lv_room (Nat.le_of_ble_eq_true rfl)) dX2_advance_119 ⟨Nat.le_of_ble_eq_true rfl, Nat.le_of_ble_eq_true rfl⟩) hP hD hS hA [0, 1] [] rfl rfl (by decide) (by decide) (fun r54166 u54167 H locs qu54167 hP hD hS => ?_)
            obtain ⟨b54168, b54169⟩ := qu54167
            have hP : va_P (dC, dI) vwCl [(hR, .inr (2, [.ref (ed 0), .int e_length, .int v54149, .ref hp, .int e_kind, .int v54149, .int e_number, .long e_name, .int e_told, .int e_faultKind, .int e_faultPlace])), (ed 0, .inl (cyB, 1600, .inl e_text))] H := hP
            have hD : va_D A [(hR, .inr (2, [.ref (ed 0), .int e_length, .int v54149, .ref hp, .int e_kind, .int v54149, .int e_number, .long e_name, .int e_told, .int e_faultKind, .int e_faultPlace])), (ed 0, .inl (cyB, 1600, .inl e_text))] := hD
            refine va_put (D := (dC, dI)) (ci := 2) (v := .int r54166) (ty := .int) (C := RX2) (T := TX2) (N := 11) hx hb hts hi2 tyX2 tyX2_ok nmX2 hown hK hP hD hS 0 rfl rfl 6 (by decide) (hts _ (ow_m (k := 13) rfl)) (fun _ h9 => h9) rfl (by decide +kernel) rfl rfl (Nat.le_of_ble_eq_true rfl) dX2_advance_122 (fun H locs hP hD hS => ?_)
            have hP : va_P (dC, dI) vwCl [(hR, .inr (2, [.ref (ed 0), .int e_length, .int v54149, .ref hp, .int e_kind, .int v54149, .int r54166, .long e_name, .int e_told, .int e_faultKind, .int e_faultPlace])), (ed 0, .inl (cyB, 1600, .inl e_text))] H := hP
            have hD : va_D A [(hR, .inr (2, [.ref (ed 0), .int e_length, .int v54149, .ref hp, .int e_kind, .int v54149, .int r54166, .long e_name, .int e_told, .int e_faultKind, .int e_faultPlace])), (ed 0, .inl (cyB, 1600, .inl e_text))] := hD
            refine lv_aload_n hx hb dX2_advance_125 rfl (lv_at hl 0 rfl) ?_
            refine va_ldcS hx hb hown hZ.2.2.2.2 dX2_advance_126 ?_
            refine lv_aload_n hx hb dX2_advance_128 rfl (lv_at hl 0 rfl) ?_
            refine va_get (D := (dC, dI)) (ci := 2) (v := .int r54166) (C := RX2) (T := TX2) (N := 11) hx hb hts hi2 hown hK hP 0 rfl rfl 6 (by decide) (hts _ (ow_m (k := 13) rfl)) (fun _ h9 => h9) rfl dX2_advance_129 ?_
            refine lv_i2c hx hb dX2_advance_132 rfl ?_
            refine lv_topi (fun z54170 ez54170 => ?_)
            refine gf_i (wr := [(hR, .inr (2, [.ref (ed 0), .int e_length, .int v54149, .ref hp, .int e_kind, .int v54149, .int r54166, .long e_name, .int e_told, .int e_faultKind, .int e_faultPlace])), (ed 0, .inl (cyB, 1600, .inl e_text))]) (va_runV (As := [.int z54170]) (rest := [.ref hR]) hfix (j_ix l dC dI cyB cyI cyJ cyZ cyO adK adV z54170 _) (cwV 1 hts (gi_V (ow_m (k := 14) rfl) (ow_m (k := 15) rfl) (ow_m (k := 16) rfl) (ow_m (k := 17) rfl) (sb_c (sb_r (sb_r (sb_r sb_l)))) gd_j_ix) rfl rfl rfl (by decide +kernel) ⟨Nat.le_of_ble_eq_true rfl, Nat.le_of_ble_eq_true rfl⟩) (g_preVS hZ hS hA hKN hP hD 1 (by decide)) rfl rfl hl.1 rfl (lv_room (Nat.le_of_ble_eq_true rfl)) dX2_advance_133 ⟨Nat.le_of_ble_eq_true rfl, Nat.le_of_ble_eq_true rfl⟩) hP hD hS hA [] [0, 1] rfl rfl (by decide) (by decide) (fun r54171 u54172 H locs qu54172 hP hD hS => ?_)
            have hP : va_P (dC, dI) vwCl [(hR, .inr (2, [.ref (ed 0), .int e_length, .int v54149, .ref hp, .int e_kind, .int v54149, .int r54166, .long e_name, .int e_told, .int e_faultKind, .int e_faultPlace])), (ed 0, .inl (cyB, 1600, .inl e_text))] H := hP
            have hD : va_D A [(hR, .inr (2, [.ref (ed 0), .int e_length, .int v54149, .ref hp, .int e_kind, .int v54149, .int r54166, .long e_name, .int e_told, .int e_faultKind, .int e_faultPlace])), (ed 0, .inl (cyB, 1600, .inl e_text))] := hD
            obtain ⟨b54173, b54174⟩ := qu54172
            refine lv_if_lt (tgt := 143) hx hb dX2_advance_136 (by decide) (fun c54175 => ?_) (fun c54175 => ?_)
            · have c54175 := i_lt (a := r54171.toInt) (b := 0) c54175 rfl (by decide)
              refine lv_iconst (v := 5) hx hb dX2_advance_143 (by decide) ?_
              refine va_put (D := (dC, dI)) (ci := 2) (v := .int 5) (ty := .int) (C := RX2) (T := TX2) (N := 11) hx hb hts hi2 tyX2 tyX2_ok nmX2 hown hK hP hD hS 0 rfl rfl 4 (by decide) (hts _ (ow_m (k := 18) rfl)) (fun _ h9 => h9) rfl (by decide +kernel) rfl rfl (Nat.le_of_ble_eq_true rfl) dX2_advance_144 (fun H locs hP hD hS => ?_)
              have hP : va_P (dC, dI) vwCl [(hR, .inr (2, [.ref (ed 0), .int e_length, .int v54149, .ref hp, .int 5, .int v54149, .int r54166, .long e_name, .int e_told, .int e_faultKind, .int e_faultPlace])), (ed 0, .inl (cyB, 1600, .inl e_text))] H := hP
              have hD : va_D A [(hR, .inr (2, [.ref (ed 0), .int e_length, .int v54149, .ref hp, .int 5, .int v54149, .int r54166, .long e_name, .int e_told, .int e_faultKind, .int e_faultPlace])), (ed 0, .inl (cyB, 1600, .inl e_text))] := hD
              refine lv_aload_n hx hb dX2_advance_147 rfl (lv_at hl 0 rfl) ?_
              refine lv_dup hx hb dX2_advance_148 rfl ?_
              refine va_get (D := (dC, dI)) (ci := 2) (v := .int v54149) (C := RX2) (T := TX2) (N := 11) hx hb hts hi2 hown hK hP 0 rfl rfl 2 (by decide) (hts _ (ow_m (k := 0) rfl)) (fun _ h9 => h9) rfl dX2_advance_149 ?_
              refine lv_iconst (v := 1) hx hb dX2_advance_152 (by decide) ?_
              refine lv_iadd hx hb dX2_advance_153 ?_
              refine lv_topi (fun z54176 ez54176 => ?_)
              have tz54176 := ti_add (a := v54149.toInt) (b := 1) ez54176 rfl (by decide) (by omega) (by omega)
              refine va_put (D := (dC, dI)) (ci := 2) (v := .int z54176) (ty := .int) (C := RX2) (T := TX2) (N := 11) hx hb hts hi2 tyX2 tyX2_ok nmX2 hown hK hP hD hS 0 rfl rfl 2 (by decide) (hts _ (ow_m (k := 0) rfl)) (fun _ h9 => h9) rfl (by decide +kernel) rfl rfl (Nat.le_of_ble_eq_true rfl) dX2_advance_154 (fun H locs hP hD hS => ?_)
              have hP : va_P (dC, dI) vwCl [(hR, .inr (2, [.ref (ed 0), .int e_length, .int z54176, .ref hp, .int 5, .int v54149, .int r54166, .long e_name, .int e_told, .int e_faultKind, .int e_faultPlace])), (ed 0, .inl (cyB, 1600, .inl e_text))] H := hP
              have hD : va_D A [(hR, .inr (2, [.ref (ed 0), .int e_length, .int z54176, .ref hp, .int 5, .int v54149, .int r54166, .long e_name, .int e_told, .int e_faultKind, .int e_faultPlace])), (ed 0, .inl (cyB, 1600, .inl e_text))] := hD
              have w54177 : 0 ≤ z54176.toInt := by first | omega | assumption | rfl | (intros; rfl)
              have w54178 : z54176.toInt ≤ 1600 := by first | omega | assumption | rfl | (intros; rfl)
              have w54179 : 0 ≤ (5 : Int32).toInt := by first | omega | assumption | rfl | (intros; rfl)
              have w54180 : (5 : Int32).toInt ≤ 5 := by first | omega | assumption | rfl | (intros; rfl)
              have w54181 : 0 ≤ v54149.toInt := by first | omega | assumption | rfl | (intros; rfl)
              have w54182 : v54149.toInt ≤ 1600 := by first | omega | assumption | rfl | (intros; rfl)
              exact W.vret hx hb hr (fun t ht hW => ⟨⟨((fun _ => fun _ => 0), (fun k => match k with | 0 => z54176 | 1 => 5 | 2 => v54149 | _ => r54166), (fun _ => e_name), (fun _ => fun _ => 0)), rfl, ⟨w54177, w54178, w54179, w54180, w54181, w54182⟩, cE.of ht hP hD [0, 1] (by decide) rfl⟩, hS.F ht⟩) hS.2.2 dX2_advance_157
            · have c54175 := i_nlt (a := r54171.toInt) (b := 0) c54175 rfl (by decide)
              refine lv_iconst (v := 4) hx hb dX2_advance_139 (by decide) ?_
              refine lv_goto (tgt := 144) hx hb dX2_advance_140 (by decide) ?_
              refine va_put (D := (dC, dI)) (ci := 2) (v := .int 4) (ty := .int) (C := RX2) (T := TX2) (N := 11) hx hb hts hi2 tyX2 tyX2_ok nmX2 hown hK hP hD hS 0 rfl rfl 4 (by decide) (hts _ (ow_m (k := 18) rfl)) (fun _ h9 => h9) rfl (by decide +kernel) rfl rfl (Nat.le_of_ble_eq_true rfl) dX2_advance_144 (fun H locs hP hD hS => ?_)
              have hP : va_P (dC, dI) vwCl [(hR, .inr (2, [.ref (ed 0), .int e_length, .int v54149, .ref hp, .int 4, .int v54149, .int r54166, .long e_name, .int e_told, .int e_faultKind, .int e_faultPlace])), (ed 0, .inl (cyB, 1600, .inl e_text))] H := hP
              have hD : va_D A [(hR, .inr (2, [.ref (ed 0), .int e_length, .int v54149, .ref hp, .int 4, .int v54149, .int r54166, .long e_name, .int e_told, .int e_faultKind, .int e_faultPlace])), (ed 0, .inl (cyB, 1600, .inl e_text))] := hD
              refine lv_aload_n hx hb dX2_advance_147 rfl (lv_at hl 0 rfl) ?_
              refine lv_dup hx hb dX2_advance_148 rfl ?_
              refine va_get (D := (dC, dI)) (ci := 2) (v := .int v54149) (C := RX2) (T := TX2) (N := 11) hx hb hts hi2 hown hK hP 0 rfl rfl 2 (by decide) (hts _ (ow_m (k := 0) rfl)) (fun _ h9 => h9) rfl dX2_advance_149 ?_
              refine lv_iconst (v := 1) hx hb dX2_advance_152 (by decide) ?_
              refine lv_iadd hx hb dX2_advance_153 ?_
              refine lv_topi (fun z54183 ez54183 => ?_)
              have tz54183 := ti_add (a := v54149.toInt) (b := 1) ez54183 rfl (by decide) (by omega) (by omega)
              refine va_put (D := (dC, dI)) (ci := 2) (v := .int z54183) (ty := .int) (C := RX2) (T := TX2) (N := 11) hx hb hts hi2 tyX2 tyX2_ok nmX2 hown hK hP hD hS 0 rfl rfl 2 (by decide) (hts _ (ow_m (k := 0) rfl)) (fun _ h9 => h9) rfl (by decide +kernel) rfl rfl (Nat.le_of_ble_eq_true rfl) dX2_advance_154 (fun H locs hP hD hS => ?_)
              have hP : va_P (dC, dI) vwCl [(hR, .inr (2, [.ref (ed 0), .int e_length, .int z54183, .ref hp, .int 4, .int v54149, .int r54166, .long e_name, .int e_told, .int e_faultKind, .int e_faultPlace])), (ed 0, .inl (cyB, 1600, .inl e_text))] H := hP
              have hD : va_D A [(hR, .inr (2, [.ref (ed 0), .int e_length, .int z54183, .ref hp, .int 4, .int v54149, .int r54166, .long e_name, .int e_told, .int e_faultKind, .int e_faultPlace])), (ed 0, .inl (cyB, 1600, .inl e_text))] := hD
              have w54184 : 0 ≤ z54183.toInt := by first | omega | assumption | rfl | (intros; rfl)
              have w54185 : z54183.toInt ≤ 1600 := by first | omega | assumption | rfl | (intros; rfl)
              have w54186 : 0 ≤ (4 : Int32).toInt := by first | omega | assumption | rfl | (intros; rfl)
              have w54187 : (4 : Int32).toInt ≤ 5 := by first | omega | assumption | rfl | (intros; rfl)
              have w54188 : 0 ≤ v54149.toInt := by first | omega | assumption | rfl | (intros; rfl)
              have w54189 : v54149.toInt ≤ 1600 := by first | omega | assumption | rfl | (intros; rfl)
              exact W.vret hx hb hr (fun t ht hW => ⟨⟨((fun _ => fun _ => 0), (fun k => match k with | 0 => z54183 | 1 => 4 | 2 => v54149 | _ => r54166), (fun _ => e_name), (fun _ => fun _ => 0)), rfl, ⟨w54184, w54185, w54186, w54187, w54188, w54189⟩, cE.of ht hP hD [0, 1] (by decide) rfl⟩, hS.F ht⟩) hS.2.2 dX2_advance_157
          · have c54165 := i_ne (a := r54161.toInt) (b := 0) c54165 rfl (by decide)
            refine lv_aload_n hx hb dX2_advance_106 rfl (lv_at hl 0 rfl) ?_
            refine gf_v (wr := []) (va_runV (As := []) (rest := []) hfix (k_Re_readDigits l dC dI cyB cyI cyJ cyZ cyO hR ed e_text e_length v54149 e_kind v54149 e_number e_told e_faultKind e_faultPlace e_name hp _ (by first | omega | assumption) (by first | omega | assumption) (by first | omega | assumption) (by first | omega | assumption) (by first | omega | assumption) (by first | omega | assumption) (by first | omega | assumption) (by first | omega | assumption)) (cwV 0 hts (gi_V (ow_m (k := 19) rfl) (ow_m (k := 20) rfl) (ow_m (k := 21) rfl) (ow_m (k := 6) rfl) (sb_c (sb_r (sb_r (sb_r (sb_r sb_l))))) gd_k_Re_readDigits) rfl rfl rfl (by decide +kernel) ⟨Nat.le_of_ble_eq_true rfl, Nat.le_of_ble_eq_true rfl⟩) (g_preV hKN hP hD [0, 1] rfl (by decide) 0 2 rfl rfl) rfl rfl hl.1 rfl (lv_room (Nat.le_of_ble_eq_true rfl)) dX2_advance_107 ⟨Nat.le_of_ble_eq_true rfl, Nat.le_of_ble_eq_true rfl⟩) hP hD hS hA [0, 1] [] rfl rfl (by decide) (by decide) (fun u54191 H locs qu54191 hP hD hS => ?_)
            obtain ⟨b54192, b54193, b54194, b54195⟩ := qu54191
            have hP : va_P (dC, dI) vwCl [(hR, .inr (2, [.ref (ed 0), .int e_length, .int (u54191.2.1 0), .ref hp, .int (u54191.2.1 1), .int v54149, .int (u54191.2.1 2), .long e_name, .int e_told, .int e_faultKind, .int e_faultPlace])), (ed 0, .inl (cyB, 1600, .inl e_text))] H := hP
            have hD : va_D A [(hR, .inr (2, [.ref (ed 0), .int e_length, .int (u54191.2.1 0), .ref hp, .int (u54191.2.1 1), .int v54149, .int (u54191.2.1 2), .long e_name, .int e_told, .int e_faultKind, .int e_faultPlace])), (ed 0, .inl (cyB, 1600, .inl e_text))] := hD
            refine lv_goto (tgt := 157) hx hb dX2_advance_110 (by decide) ?_
            have w54196 : 0 ≤ (u54191.2.1 0).toInt := by first | omega | assumption | rfl | (intros; rfl)
            have w54197 : (u54191.2.1 0).toInt ≤ 1600 := by first | omega | assumption | rfl | (intros; rfl)
            have w54198 : 0 ≤ (u54191.2.1 1).toInt := by first | omega | assumption | rfl | (intros; rfl)
            have w54199 : (u54191.2.1 1).toInt ≤ 5 := by first | omega | assumption | rfl | (intros; rfl)
            have w54200 : 0 ≤ v54149.toInt := by first | omega | assumption | rfl | (intros; rfl)
            have w54201 : v54149.toInt ≤ 1600 := by first | omega | assumption | rfl | (intros; rfl)
            exact W.vret hx hb hr (fun t ht hW => ⟨⟨((fun _ => fun _ => 0), (fun k => match k with | 0 => u54191.2.1 0 | 1 => u54191.2.1 1 | 2 => v54149 | _ => u54191.2.1 2), (fun _ => e_name), (fun _ => fun _ => 0)), rfl, ⟨w54196, w54197, w54198, w54199, w54200, w54201⟩, cE.of ht hP hD [0, 1] (by decide) rfl⟩, hS.F ht⟩) hS.2.2 dX2_advance_157
        · have c54160 := i_ne (a := r54156.toInt) (b := 0) c54160 rfl (by decide)
          refine lv_aload_n hx hb dX2_advance_88 rfl (lv_at hl 0 rfl) ?_
          refine gf_v (wr := []) (va_runV (As := []) (rest := []) hfix (k_Re_readLetters l dC dI cyB cyI cyJ cyZ cyO adK adV hR ed e_text e_length v54149 e_kind v54149 e_number e_told e_faultKind e_faultPlace e_name hp _ (by first | omega | assumption) (by first | omega | assumption) (by first | omega | assumption) (by first | omega | assumption) (by first | omega | assumption) (by first | omega | assumption) (by first | omega | assumption) (by first | omega | assumption)) (cwV 0 hts (gi_V (ow_m (k := 22) rfl) (ow_m (k := 23) rfl) (ow_m (k := 24) rfl) (ow_m (k := 6) rfl) (sb_c (sb_r (sb_r (sb_r (sb_r (sb_r sb_l)))))) gd_k_Re_readLetters) rfl rfl rfl (by decide +kernel) ⟨Nat.le_of_ble_eq_true rfl, Nat.le_of_ble_eq_true rfl⟩) (g_preVZ hZ hS hA hKN hP hD [0, 1] rfl (by decide) 0 2 rfl rfl) rfl rfl hl.1 rfl (lv_room (Nat.le_of_ble_eq_true rfl)) dX2_advance_89 ⟨Nat.le_of_ble_eq_true rfl, Nat.le_of_ble_eq_true rfl⟩) hP hD hS hA [0, 1] [] rfl rfl (by decide) (by decide) (fun u54203 H locs qu54203 hP hD hS => ?_)
          obtain ⟨b54204, b54205, b54206, b54207⟩ := qu54203
          have hP : va_P (dC, dI) vwCl [(hR, .inr (2, [.ref (ed 0), .int e_length, .int (u54203.2.1 0), .ref hp, .int (u54203.2.1 1), .int v54149, .int (u54203.2.1 2), .long (u54203.2.2.1 0), .int e_told, .int e_faultKind, .int e_faultPlace])), (ed 0, .inl (cyB, 1600, .inl e_text))] H := hP
          have hD : va_D A [(hR, .inr (2, [.ref (ed 0), .int e_length, .int (u54203.2.1 0), .ref hp, .int (u54203.2.1 1), .int v54149, .int (u54203.2.1 2), .long (u54203.2.2.1 0), .int e_told, .int e_faultKind, .int e_faultPlace])), (ed 0, .inl (cyB, 1600, .inl e_text))] := hD
          refine lv_goto (tgt := 157) hx hb dX2_advance_92 (by decide) ?_
          have w54208 : 0 ≤ (u54203.2.1 0).toInt := by first | omega | assumption | rfl | (intros; rfl)
          have w54209 : (u54203.2.1 0).toInt ≤ 1600 := by first | omega | assumption | rfl | (intros; rfl)
          have w54210 : 0 ≤ (u54203.2.1 1).toInt := by first | omega | assumption | rfl | (intros; rfl)
          have w54211 : (u54203.2.1 1).toInt ≤ 5 := by first | omega | assumption | rfl | (intros; rfl)
          have w54212 : 0 ≤ v54149.toInt := by first | omega | assumption | rfl | (intros; rfl)
          have w54213 : v54149.toInt ≤ 1600 := by first | omega | assumption | rfl | (intros; rfl)
          exact W.vret hx hb hr (fun t ht hW => ⟨⟨((fun _ => fun _ => 0), (fun k => match k with | 0 => u54203.2.1 0 | 1 => u54203.2.1 1 | 2 => v54149 | _ => u54203.2.1 2), (fun _ => u54203.2.2.1 0), (fun _ => fun _ => 0)), rfl, ⟨w54208, w54209, w54210, w54211, w54212, w54213⟩, cE.of ht hP hD [0, 1] (by decide) rfl⟩, hS.F ht⟩) hS.2.2 dX2_advance_157
      · have c54155 := i_nlt (a := v54149.toInt) (b := e_length.toInt) c54155 rfl rfl
        refine lv_aload_n hx hb dX2_advance_69 rfl (lv_at hl 0 rfl) ?_
        refine lv_iconst (v := 0) hx hb dX2_advance_70 (by decide) ?_
        refine va_put (D := (dC, dI)) (ci := 2) (v := .int 0) (ty := .int) (C := RX2) (T := TX2) (N := 11) hx hb hts hi2 tyX2 tyX2_ok nmX2 hown hK hP hD hS 0 rfl rfl 4 (by decide) (hts _ (ow_m (k := 18) rfl)) (fun _ h9 => h9) rfl (by decide +kernel) rfl rfl (Nat.le_of_ble_eq_true rfl) dX2_advance_71 (fun H locs hP hD hS => ?_)
        have hP : va_P (dC, dI) vwCl [(hR, .inr (2, [.ref (ed 0), .int e_length, .int v54149, .ref hp, .int 0, .int v54149, .int e_number, .long e_name, .int e_told, .int e_faultKind, .int e_faultPlace])), (ed 0, .inl (cyB, 1600, .inl e_text))] H := hP
        have hD : va_D A [(hR, .inr (2, [.ref (ed 0), .int e_length, .int v54149, .ref hp, .int 0, .int v54149, .int e_number, .long e_name, .int e_told, .int e_faultKind, .int e_faultPlace])), (ed 0, .inl (cyB, 1600, .inl e_text))] := hD
        refine lv_goto (tgt := 157) hx hb dX2_advance_74 (by decide) ?_
        have w54214 : 0 ≤ v54149.toInt := by first | omega | assumption | rfl | (intros; rfl)
        have w54215 : v54149.toInt ≤ 1600 := by first | omega | assumption | rfl | (intros; rfl)
        have w54216 : 0 ≤ (0 : Int32).toInt := by first | omega | assumption | rfl | (intros; rfl)
        have w54217 : (0 : Int32).toInt ≤ 5 := by first | omega | assumption | rfl | (intros; rfl)
        have w54218 : 0 ≤ v54149.toInt := by first | omega | assumption | rfl | (intros; rfl)
        have w54219 : v54149.toInt ≤ 1600 := by first | omega | assumption | rfl | (intros; rfl)
        exact W.vret hx hb hr (fun t ht hW => ⟨⟨((fun _ => fun _ => 0), (fun k => match k with | 0 => v54149 | 1 => 0 | 2 => v54149 | _ => e_number), (fun _ => e_name), (fun _ => fun _ => 0)), rfl, ⟨w54214, w54215, w54216, w54217, w54218, w54219⟩, cE.of ht hP hD [0, 1] (by decide) rfl⟩, hS.F ht⟩) hS.2.2 dX2_advance_157
    · have c54154 := i_nle (a := e_length.toInt) (b := v54149.toInt) c54154 rfl rfl
      refine lv_aload_n hx hb dX2_advance_11 rfl (lv_at hl 0 rfl) ?_
      refine lv_aload_n hx hb dX2_advance_12 rfl (lv_at hl 0 rfl) ?_
      refine va_get (D := (dC, dI)) (ci := 2) (v := .int v54149) (C := RX2) (T := TX2) (N := 11) hx hb hts hi2 hown hK hP 0 rfl rfl 2 (by decide) (hts _ (ow_m (k := 0) rfl)) (fun _ h9 => h9) rfl dX2_advance_13 ?_
      refine gf_i (wr := []) (va_runV (As := [.int v54149]) (rest := []) hfix (k_Re_byteAt l dC dI cyB cyI cyJ cyZ cyO hR ed e_text e_length v54149 e_kind e_start e_number e_told e_faultKind e_faultPlace e_name v54149 hp _ (by first | omega | assumption) (by first | omega | assumption) (by first | omega | assumption) (by first | omega | assumption) (by first | omega | assumption) (by first | omega | assumption) (by first | omega | assumption) (by first | omega | assumption)) (cwV 1 hts (gi_V (ow_m (k := 10) rfl) (ow_m (k := 11) rfl) (ow_m (k := 12) rfl) (ow_m (k := 6) rfl) (sb_c (sb_r (sb_r sb_l))) gd_k_Re_byteAt) rfl rfl rfl (by decide +kernel) ⟨Nat.le_of_ble_eq_true rfl, Nat.le_of_ble_eq_true rfl⟩) (g_preV hKN hP hD [0, 1] rfl (by decide) 0 2 rfl rfl) rfl rfl hl.1 rfl (lv_room (Nat.le_of_ble_eq_true rfl)) dX2_advance_16 ⟨Nat.le_of_ble_eq_true rfl, Nat.le_of_ble_eq_true rfl⟩) hP hD hS hA [0, 1] [] rfl rfl (by decide) (by decide) (fun r54220 u54221 H locs qu54221 hP hD hS => ?_)
      obtain ⟨b54222, b54223⟩ := qu54221
      have hP : va_P (dC, dI) vwCl [(hR, .inr (2, [.ref (ed 0), .int e_length, .int v54149, .ref hp, .int e_kind, .int e_start, .int e_number, .long e_name, .int e_told, .int e_faultKind, .int e_faultPlace])), (ed 0, .inl (cyB, 1600, .inl e_text))] H := hP
      have hD : va_D A [(hR, .inr (2, [.ref (ed 0), .int e_length, .int v54149, .ref hp, .int e_kind, .int e_start, .int e_number, .long e_name, .int e_told, .int e_faultKind, .int e_faultPlace])), (ed 0, .inl (cyB, 1600, .inl e_text))] := hD
      refine lv_bipush (v := 32) hx hb dX2_advance_19 (by decide) ?_
      refine lv_icmp_eq (tgt := 37) hx hb dX2_advance_21 (by decide) (fun c54224 => ?_) (fun c54224 => ?_)
      · have c54224 := i_eq (a := r54220.toInt) (b := 32) c54224 rfl (by decide)
        refine lv_aload_n hx hb dX2_advance_37 rfl (lv_at hl 0 rfl) ?_
        refine lv_dup hx hb dX2_advance_38 rfl ?_
        refine va_get (D := (dC, dI)) (ci := 2) (v := .int v54149) (C := RX2) (T := TX2) (N := 11) hx hb hts hi2 hown hK hP 0 rfl rfl 2 (by decide) (hts _ (ow_m (k := 0) rfl)) (fun _ h9 => h9) rfl dX2_advance_39 ?_
        refine lv_iconst (v := 1) hx hb dX2_advance_42 (by decide) ?_
        refine lv_iadd hx hb dX2_advance_43 ?_
        refine lv_topi (fun z54225 ez54225 => ?_)
        have tz54225 := ti_add (a := v54149.toInt) (b := 1) ez54225 rfl (by decide) (by omega) (by omega)
        refine va_put (D := (dC, dI)) (ci := 2) (v := .int z54225) (ty := .int) (C := RX2) (T := TX2) (N := 11) hx hb hts hi2 tyX2 tyX2_ok nmX2 hown hK hP hD hS 0 rfl rfl 2 (by decide) (hts _ (ow_m (k := 0) rfl)) (fun _ h9 => h9) rfl (by decide +kernel) rfl rfl (Nat.le_of_ble_eq_true rfl) dX2_advance_44 (fun H locs hP hD hS => ?_)
        have hP : va_P (dC, dI) vwCl [(hR, .inr (2, [.ref (ed 0), .int e_length, .int z54225, .ref hp, .int e_kind, .int e_start, .int e_number, .long e_name, .int e_told, .int e_faultKind, .int e_faultPlace])), (ed 0, .inl (cyB, 1600, .inl e_text))] H := hP
        have hD : va_D A [(hR, .inr (2, [.ref (ed 0), .int e_length, .int z54225, .ref hp, .int e_kind, .int e_start, .int e_number, .long e_name, .int e_told, .int e_faultKind, .int e_faultPlace])), (ed 0, .inl (cyB, 1600, .inl e_text))] := hD
        refine lv_goto (tgt := 0) hx hb dX2_advance_47 (by decide) ?_
        have hl := lv_sub (l' := [(0, .ref hR)]) hl [0] rfl
        apply ih54153 (v54149 := z54225) (H := H) (locs := locs) (ls := ls) <;> first | assumption | omega
      · have c54224 := i_ne (a := r54220.toInt) (b := 32) c54224 rfl (by decide)
        refine lv_aload_n hx hb dX2_advance_24 rfl (lv_at hl 0 rfl) ?_
        refine lv_aload_n hx hb dX2_advance_25 rfl (lv_at hl 0 rfl) ?_
        refine va_get (D := (dC, dI)) (ci := 2) (v := .int v54149) (C := RX2) (T := TX2) (N := 11) hx hb hts hi2 hown hK hP 0 rfl rfl 2 (by decide) (hts _ (ow_m (k := 0) rfl)) (fun _ h9 => h9) rfl dX2_advance_26 ?_
        refine gf_i (wr := []) (va_runV (As := [.int v54149]) (rest := []) hfix (k_Re_byteAt l dC dI cyB cyI cyJ cyZ cyO hR ed e_text e_length v54149 e_kind e_start e_number e_told e_faultKind e_faultPlace e_name v54149 hp _ (by first | omega | assumption) (by first | omega | assumption) (by first | omega | assumption) (by first | omega | assumption) (by first | omega | assumption) (by first | omega | assumption) (by first | omega | assumption) (by first | omega | assumption)) (cwV 1 hts (gi_V (ow_m (k := 10) rfl) (ow_m (k := 11) rfl) (ow_m (k := 12) rfl) (ow_m (k := 6) rfl) (sb_c (sb_r (sb_r sb_l))) gd_k_Re_byteAt) rfl rfl rfl (by decide +kernel) ⟨Nat.le_of_ble_eq_true rfl, Nat.le_of_ble_eq_true rfl⟩) (g_preV hKN hP hD [0, 1] rfl (by decide) 0 2 rfl rfl) rfl rfl hl.1 rfl (lv_room (Nat.le_of_ble_eq_true rfl)) dX2_advance_29 ⟨Nat.le_of_ble_eq_true rfl, Nat.le_of_ble_eq_true rfl⟩) hP hD hS hA [0, 1] [] rfl rfl (by decide) (by decide) (fun r54226 u54227 H locs qu54227 hP hD hS => ?_)
        obtain ⟨b54228, b54229⟩ := qu54227
        have hP : va_P (dC, dI) vwCl [(hR, .inr (2, [.ref (ed 0), .int e_length, .int v54149, .ref hp, .int e_kind, .int e_start, .int e_number, .long e_name, .int e_told, .int e_faultKind, .int e_faultPlace])), (ed 0, .inl (cyB, 1600, .inl e_text))] H := hP
        have hD : va_D A [(hR, .inr (2, [.ref (ed 0), .int e_length, .int v54149, .ref hp, .int e_kind, .int e_start, .int e_number, .long e_name, .int e_told, .int e_faultKind, .int e_faultPlace])), (ed 0, .inl (cyB, 1600, .inl e_text))] := hD
        refine lv_bipush (v := 10) hx hb dX2_advance_32 (by decide) ?_
        refine lv_icmp_ne (tgt := 50) hx hb dX2_advance_34 (by decide) (fun c54230 => ?_) (fun c54230 => ?_)
        · have c54230 := i_ne (a := r54226.toInt) (b := 10) c54230 rfl (by decide)
          refine lv_aload_n hx hb dX2_advance_50 rfl (lv_at hl 0 rfl) ?_
          refine lv_aload_n hx hb dX2_advance_51 rfl (lv_at hl 0 rfl) ?_
          refine va_get (D := (dC, dI)) (ci := 2) (v := .int v54149) (C := RX2) (T := TX2) (N := 11) hx hb hts hi2 hown hK hP 0 rfl rfl 2 (by decide) (hts _ (ow_m (k := 0) rfl)) (fun _ h9 => h9) rfl dX2_advance_52 ?_
          refine va_put (D := (dC, dI)) (ci := 2) (v := .int v54149) (ty := .int) (C := RX2) (T := TX2) (N := 11) hx hb hts hi2 tyX2 tyX2_ok nmX2 hown hK hP hD hS 0 rfl rfl 5 (by decide) (hts _ (ow_m (k := 2) rfl)) (fun _ h9 => h9) rfl (by decide +kernel) rfl rfl (Nat.le_of_ble_eq_true rfl) dX2_advance_55 (fun H locs hP hD hS => ?_)
          have hP : va_P (dC, dI) vwCl [(hR, .inr (2, [.ref (ed 0), .int e_length, .int v54149, .ref hp, .int e_kind, .int v54149, .int e_number, .long e_name, .int e_told, .int e_faultKind, .int e_faultPlace])), (ed 0, .inl (cyB, 1600, .inl e_text))] H := hP
          have hD : va_D A [(hR, .inr (2, [.ref (ed 0), .int e_length, .int v54149, .ref hp, .int e_kind, .int v54149, .int e_number, .long e_name, .int e_told, .int e_faultKind, .int e_faultPlace])), (ed 0, .inl (cyB, 1600, .inl e_text))] := hD
          refine lv_aload_n hx hb dX2_advance_58 rfl (lv_at hl 0 rfl) ?_
          refine va_get (D := (dC, dI)) (ci := 2) (v := .int v54149) (C := RX2) (T := TX2) (N := 11) hx hb hts hi2 hown hK hP 0 rfl rfl 2 (by decide) (hts _ (ow_m (k := 0) rfl)) (fun _ h9 => h9) rfl dX2_advance_59 ?_
          refine lv_aload_n hx hb dX2_advance_62 rfl (lv_at hl 0 rfl) ?_
          refine va_get (D := (dC, dI)) (ci := 2) (v := .int e_length) (C := RX2) (T := TX2) (N := 11) hx hb hts hi2 hown hK hP 0 rfl rfl 1 (by decide) (hts _ (ow_m (k := 1) rfl)) (fun _ h9 => h9) rfl dX2_advance_63 ?_
          refine lv_icmp_lt (tgt := 77) hx hb dX2_advance_66 (by decide) (fun c54231 => ?_) (fun c54231 => ?_)
          · have c54231 := i_lt (a := v54149.toInt) (b := e_length.toInt) c54231 rfl rfl
            refine lv_aload_n hx hb dX2_advance_77 rfl (lv_at hl 0 rfl) ?_
            refine lv_aload_n hx hb dX2_advance_78 rfl (lv_at hl 0 rfl) ?_
            refine va_get (D := (dC, dI)) (ci := 2) (v := .int v54149) (C := RX2) (T := TX2) (N := 11) hx hb hts hi2 hown hK hP 0 rfl rfl 2 (by decide) (hts _ (ow_m (k := 0) rfl)) (fun _ h9 => h9) rfl dX2_advance_79 ?_
            refine gf_i (wr := []) (va_runV (As := [.int v54149]) (rest := []) hfix (k_Re_isLetter l dC dI cyB cyI cyJ cyZ cyO hR ed e_text e_length v54149 e_kind v54149 e_number e_told e_faultKind e_faultPlace e_name v54149 hp _ (by first | omega | assumption) (by first | omega | assumption) (by first | omega | assumption) (by first | omega | assumption) (by first | omega | assumption) (by first | omega | assumption) (by first | omega | assumption) (by first | omega | assumption)) (cwV 1 hts (gi_V (ow_m (k := 3) rfl) (ow_m (k := 4) rfl) (ow_m (k := 5) rfl) (ow_m (k := 6) rfl) (sb_c sb_l) gd_k_Re_isLetter) rfl rfl rfl (by decide +kernel) ⟨Nat.le_of_ble_eq_true rfl, Nat.le_of_ble_eq_true rfl⟩) (g_preV hKN hP hD [0, 1] rfl (by decide) 0 2 rfl rfl) rfl rfl hl.1 rfl (lv_room (Nat.le_of_ble_eq_true rfl)) dX2_advance_82 ⟨Nat.le_of_ble_eq_true rfl, Nat.le_of_ble_eq_true rfl⟩) hP hD hS hA [0, 1] [] rfl rfl (by decide) (by decide) (fun r54232 u54233 H locs qu54233 hP hD hS => ?_)
            obtain ⟨b54234, b54235⟩ := qu54233
            have hP : va_P (dC, dI) vwCl [(hR, .inr (2, [.ref (ed 0), .int e_length, .int v54149, .ref hp, .int e_kind, .int v54149, .int e_number, .long e_name, .int e_told, .int e_faultKind, .int e_faultPlace])), (ed 0, .inl (cyB, 1600, .inl e_text))] H := hP
            have hD : va_D A [(hR, .inr (2, [.ref (ed 0), .int e_length, .int v54149, .ref hp, .int e_kind, .int v54149, .int e_number, .long e_name, .int e_told, .int e_faultKind, .int e_faultPlace])), (ed 0, .inl (cyB, 1600, .inl e_text))] := hD
            refine lv_if_eq (tgt := 95) hx hb dX2_advance_85 (by decide) (fun c54236 => ?_) (fun c54236 => ?_)
            · have c54236 := i_eq (a := r54232.toInt) (b := 0) c54236 rfl (by decide)
              refine lv_aload_n hx hb dX2_advance_95 rfl (lv_at hl 0 rfl) ?_
              refine lv_aload_n hx hb dX2_advance_96 rfl (lv_at hl 0 rfl) ?_
              refine va_get (D := (dC, dI)) (ci := 2) (v := .int v54149) (C := RX2) (T := TX2) (N := 11) hx hb hts hi2 hown hK hP 0 rfl rfl 2 (by decide) (hts _ (ow_m (k := 0) rfl)) (fun _ h9 => h9) rfl dX2_advance_97 ?_
              refine gf_i (wr := []) (va_runV (As := [.int v54149]) (rest := []) hfix (k_Re_isDigit l dC dI cyB cyI cyJ cyZ cyO hR ed e_text e_length v54149 e_kind v54149 e_number e_told e_faultKind e_faultPlace e_name v54149 hp _ (by first | omega | assumption) (by first | omega | assumption) (by first | omega | assumption) (by first | omega | assumption) (by first | omega | assumption) (by first | omega | assumption) (by first | omega | assumption) (by first | omega | assumption)) (cwV 1 hts (gi_V (ow_m (k := 7) rfl) (ow_m (k := 8) rfl) (ow_m (k := 9) rfl) (ow_m (k := 6) rfl) (sb_c (sb_r sb_l)) gd_k_Re_isDigit) rfl rfl rfl (by decide +kernel) ⟨Nat.le_of_ble_eq_true rfl, Nat.le_of_ble_eq_true rfl⟩) (g_preV hKN hP hD [0, 1] rfl (by decide) 0 2 rfl rfl) rfl rfl hl.1 rfl (lv_room (Nat.le_of_ble_eq_true rfl)) dX2_advance_100 ⟨Nat.le_of_ble_eq_true rfl, Nat.le_of_ble_eq_true rfl⟩) hP hD hS hA [0, 1] [] rfl rfl (by decide) (by decide) (fun r54237 u54238 H locs qu54238 hP hD hS => ?_)
              obtain ⟨b54239, b54240⟩ := qu54238
              have hP : va_P (dC, dI) vwCl [(hR, .inr (2, [.ref (ed 0), .int e_length, .int v54149, .ref hp, .int e_kind, .int v54149, .int e_number, .long e_name, .int e_told, .int e_faultKind, .int e_faultPlace])), (ed 0, .inl (cyB, 1600, .inl e_text))] H := hP
              have hD : va_D A [(hR, .inr (2, [.ref (ed 0), .int e_length, .int v54149, .ref hp, .int e_kind, .int v54149, .int e_number, .long e_name, .int e_told, .int e_faultKind, .int e_faultPlace])), (ed 0, .inl (cyB, 1600, .inl e_text))] := hD
              refine lv_if_eq (tgt := 113) hx hb dX2_advance_103 (by decide) (fun c54241 => ?_) (fun c54241 => ?_)
              · have c54241 := i_eq (a := r54237.toInt) (b := 0) c54241 rfl (by decide)
                refine lv_aload_n hx hb dX2_advance_113 rfl (lv_at hl 0 rfl) ?_
                refine lv_aload_n hx hb dX2_advance_114 rfl (lv_at hl 0 rfl) ?_
                refine lv_aload_n hx hb dX2_advance_115 rfl (lv_at hl 0 rfl) ?_
                refine va_get (D := (dC, dI)) (ci := 2) (v := .int v54149) (C := RX2) (T := TX2) (N := 11) hx hb hts hi2 hown hK hP 0 rfl rfl 2 (by decide) (hts _ (ow_m (k := 0) rfl)) (fun _ h9 => h9) rfl dX2_advance_116 ?_
                refine gf_i (wr := []) (va_runV (As := [.int v54149]) (rest := [.ref hR]) hfix (k_Re_byteAt l dC dI cyB cyI cyJ cyZ cyO hR ed e_text e_length v54149 e_kind v54149 e_number e_told e_faultKind e_faultPlace e_name v54149 hp _ (by first | omega | assumption) (by first | omega | assumption) (by first | omega | assumption) (by first | omega | assumption) (by first | omega | assumption) (by first | omega | assumption) (by first | omega | assumption) (by first | omega | assumption)) (cwV 1 hts (gi_V (ow_m (k := 10) rfl) (ow_m (k := 11) rfl) (ow_m (k := 12) rfl) (ow_m (k := 6) rfl) (sb_c (sb_r (sb_r sb_l))) gd_k_Re_byteAt) rfl rfl rfl (by decide +kernel) ⟨Nat.le_of_ble_eq_true rfl, Nat.le_of_ble_eq_true rfl⟩) (g_preV hKN hP hD [0, 1] rfl (by decide) 0 2 rfl rfl) rfl rfl hl.1 rfl (lv_room (Nat.le_of_ble_eq_true rfl)) dX2_advance_119 ⟨Nat.le_of_ble_eq_true rfl, Nat.le_of_ble_eq_true rfl⟩) hP hD hS hA [0, 1] [] rfl rfl (by decide) (by decide) (fun r54242 u54243 H locs qu54243 hP hD hS => ?_)
                obtain ⟨b54244, b54245⟩ := qu54243
                have hP : va_P (dC, dI) vwCl [(hR, .inr (2, [.ref (ed 0), .int e_length, .int v54149, .ref hp, .int e_kind, .int v54149, .int e_number, .long e_name, .int e_told, .int e_faultKind, .int e_faultPlace])), (ed 0, .inl (cyB, 1600, .inl e_text))] H := hP
                have hD : va_D A [(hR, .inr (2, [.ref (ed 0), .int e_length, .int v54149, .ref hp, .int e_kind, .int v54149, .int e_number, .long e_name, .int e_told, .int e_faultKind, .int e_faultPlace])), (ed 0, .inl (cyB, 1600, .inl e_text))] := hD
                refine va_put (D := (dC, dI)) (ci := 2) (v := .int r54242) (ty := .int) (C := RX2) (T := TX2) (N := 11) hx hb hts hi2 tyX2 tyX2_ok nmX2 hown hK hP hD hS 0 rfl rfl 6 (by decide) (hts _ (ow_m (k := 13) rfl)) (fun _ h9 => h9) rfl (by decide +kernel) rfl rfl (Nat.le_of_ble_eq_true rfl) dX2_advance_122 (fun H locs hP hD hS => ?_)
                have hP : va_P (dC, dI) vwCl [(hR, .inr (2, [.ref (ed 0), .int e_length, .int v54149, .ref hp, .int e_kind, .int v54149, .int r54242, .long e_name, .int e_told, .int e_faultKind, .int e_faultPlace])), (ed 0, .inl (cyB, 1600, .inl e_text))] H := hP
                have hD : va_D A [(hR, .inr (2, [.ref (ed 0), .int e_length, .int v54149, .ref hp, .int e_kind, .int v54149, .int r54242, .long e_name, .int e_told, .int e_faultKind, .int e_faultPlace])), (ed 0, .inl (cyB, 1600, .inl e_text))] := hD
                refine lv_aload_n hx hb dX2_advance_125 rfl (lv_at hl 0 rfl) ?_
                refine va_ldcS hx hb hown hZ.2.2.2.2 dX2_advance_126 ?_
                refine lv_aload_n hx hb dX2_advance_128 rfl (lv_at hl 0 rfl) ?_
                refine va_get (D := (dC, dI)) (ci := 2) (v := .int r54242) (C := RX2) (T := TX2) (N := 11) hx hb hts hi2 hown hK hP 0 rfl rfl 6 (by decide) (hts _ (ow_m (k := 13) rfl)) (fun _ h9 => h9) rfl dX2_advance_129 ?_
                refine lv_i2c hx hb dX2_advance_132 rfl ?_
                refine lv_topi (fun z54246 ez54246 => ?_)
                refine gf_i (wr := [(hR, .inr (2, [.ref (ed 0), .int e_length, .int v54149, .ref hp, .int e_kind, .int v54149, .int r54242, .long e_name, .int e_told, .int e_faultKind, .int e_faultPlace])), (ed 0, .inl (cyB, 1600, .inl e_text))]) (va_runV (As := [.int z54246]) (rest := [.ref hR]) hfix (j_ix l dC dI cyB cyI cyJ cyZ cyO adK adV z54246 _) (cwV 1 hts (gi_V (ow_m (k := 14) rfl) (ow_m (k := 15) rfl) (ow_m (k := 16) rfl) (ow_m (k := 17) rfl) (sb_c (sb_r (sb_r (sb_r sb_l)))) gd_j_ix) rfl rfl rfl (by decide +kernel) ⟨Nat.le_of_ble_eq_true rfl, Nat.le_of_ble_eq_true rfl⟩) (g_preVS hZ hS hA hKN hP hD 1 (by decide)) rfl rfl hl.1 rfl (lv_room (Nat.le_of_ble_eq_true rfl)) dX2_advance_133 ⟨Nat.le_of_ble_eq_true rfl, Nat.le_of_ble_eq_true rfl⟩) hP hD hS hA [] [0, 1] rfl rfl (by decide) (by decide) (fun r54247 u54248 H locs qu54248 hP hD hS => ?_)
                have hP : va_P (dC, dI) vwCl [(hR, .inr (2, [.ref (ed 0), .int e_length, .int v54149, .ref hp, .int e_kind, .int v54149, .int r54242, .long e_name, .int e_told, .int e_faultKind, .int e_faultPlace])), (ed 0, .inl (cyB, 1600, .inl e_text))] H := hP
                have hD : va_D A [(hR, .inr (2, [.ref (ed 0), .int e_length, .int v54149, .ref hp, .int e_kind, .int v54149, .int r54242, .long e_name, .int e_told, .int e_faultKind, .int e_faultPlace])), (ed 0, .inl (cyB, 1600, .inl e_text))] := hD
                obtain ⟨b54249, b54250⟩ := qu54248
                refine lv_if_lt (tgt := 143) hx hb dX2_advance_136 (by decide) (fun c54251 => ?_) (fun c54251 => ?_)
                · have c54251 := i_lt (a := r54247.toInt) (b := 0) c54251 rfl (by decide)
                  refine lv_iconst (v := 5) hx hb dX2_advance_143 (by decide) ?_
                  refine va_put (D := (dC, dI)) (ci := 2) (v := .int 5) (ty := .int) (C := RX2) (T := TX2) (N := 11) hx hb hts hi2 tyX2 tyX2_ok nmX2 hown hK hP hD hS 0 rfl rfl 4 (by decide) (hts _ (ow_m (k := 18) rfl)) (fun _ h9 => h9) rfl (by decide +kernel) rfl rfl (Nat.le_of_ble_eq_true rfl) dX2_advance_144 (fun H locs hP hD hS => ?_)
                  have hP : va_P (dC, dI) vwCl [(hR, .inr (2, [.ref (ed 0), .int e_length, .int v54149, .ref hp, .int 5, .int v54149, .int r54242, .long e_name, .int e_told, .int e_faultKind, .int e_faultPlace])), (ed 0, .inl (cyB, 1600, .inl e_text))] H := hP
                  have hD : va_D A [(hR, .inr (2, [.ref (ed 0), .int e_length, .int v54149, .ref hp, .int 5, .int v54149, .int r54242, .long e_name, .int e_told, .int e_faultKind, .int e_faultPlace])), (ed 0, .inl (cyB, 1600, .inl e_text))] := hD
                  refine lv_aload_n hx hb dX2_advance_147 rfl (lv_at hl 0 rfl) ?_
                  refine lv_dup hx hb dX2_advance_148 rfl ?_
                  refine va_get (D := (dC, dI)) (ci := 2) (v := .int v54149) (C := RX2) (T := TX2) (N := 11) hx hb hts hi2 hown hK hP 0 rfl rfl 2 (by decide) (hts _ (ow_m (k := 0) rfl)) (fun _ h9 => h9) rfl dX2_advance_149 ?_
                  refine lv_iconst (v := 1) hx hb dX2_advance_152 (by decide) ?_
                  refine lv_iadd hx hb dX2_advance_153 ?_
                  refine lv_topi (fun z54252 ez54252 => ?_)
                  have tz54252 := ti_add (a := v54149.toInt) (b := 1) ez54252 rfl (by decide) (by omega) (by omega)
                  refine va_put (D := (dC, dI)) (ci := 2) (v := .int z54252) (ty := .int) (C := RX2) (T := TX2) (N := 11) hx hb hts hi2 tyX2 tyX2_ok nmX2 hown hK hP hD hS 0 rfl rfl 2 (by decide) (hts _ (ow_m (k := 0) rfl)) (fun _ h9 => h9) rfl (by decide +kernel) rfl rfl (Nat.le_of_ble_eq_true rfl) dX2_advance_154 (fun H locs hP hD hS => ?_)
                  have hP : va_P (dC, dI) vwCl [(hR, .inr (2, [.ref (ed 0), .int e_length, .int z54252, .ref hp, .int 5, .int v54149, .int r54242, .long e_name, .int e_told, .int e_faultKind, .int e_faultPlace])), (ed 0, .inl (cyB, 1600, .inl e_text))] H := hP
                  have hD : va_D A [(hR, .inr (2, [.ref (ed 0), .int e_length, .int z54252, .ref hp, .int 5, .int v54149, .int r54242, .long e_name, .int e_told, .int e_faultKind, .int e_faultPlace])), (ed 0, .inl (cyB, 1600, .inl e_text))] := hD
                  have w54253 : 0 ≤ z54252.toInt := by first | omega | assumption | rfl | (intros; rfl)
                  have w54254 : z54252.toInt ≤ 1600 := by first | omega | assumption | rfl | (intros; rfl)
                  have w54255 : 0 ≤ (5 : Int32).toInt := by first | omega | assumption | rfl | (intros; rfl)
                  have w54256 : (5 : Int32).toInt ≤ 5 := by first | omega | assumption | rfl | (intros; rfl)
                  have w54257 : 0 ≤ v54149.toInt := by first | omega | assumption | rfl | (intros; rfl)
                  have w54258 : v54149.toInt ≤ 1600 := by first | omega | assumption | rfl | (intros; rfl)
                  exact W.vret hx hb hr (fun t ht hW => ⟨⟨((fun _ => fun _ => 0), (fun k => match k with | 0 => z54252 | 1 => 5 | 2 => v54149 | _ => r54242), (fun _ => e_name), (fun _ => fun _ => 0)), rfl, ⟨w54253, w54254, w54255, w54256, w54257, w54258⟩, cE.of ht hP hD [0, 1] (by decide) rfl⟩, hS.F ht⟩) hS.2.2 dX2_advance_157
                · have c54251 := i_nlt (a := r54247.toInt) (b := 0) c54251 rfl (by decide)
                  refine lv_iconst (v := 4) hx hb dX2_advance_139 (by decide) ?_
                  refine lv_goto (tgt := 144) hx hb dX2_advance_140 (by decide) ?_
                  refine va_put (D := (dC, dI)) (ci := 2) (v := .int 4) (ty := .int) (C := RX2) (T := TX2) (N := 11) hx hb hts hi2 tyX2 tyX2_ok nmX2 hown hK hP hD hS 0 rfl rfl 4 (by decide) (hts _ (ow_m (k := 18) rfl)) (fun _ h9 => h9) rfl (by decide +kernel) rfl rfl (Nat.le_of_ble_eq_true rfl) dX2_advance_144 (fun H locs hP hD hS => ?_)
                  have hP : va_P (dC, dI) vwCl [(hR, .inr (2, [.ref (ed 0), .int e_length, .int v54149, .ref hp, .int 4, .int v54149, .int r54242, .long e_name, .int e_told, .int e_faultKind, .int e_faultPlace])), (ed 0, .inl (cyB, 1600, .inl e_text))] H := hP
                  have hD : va_D A [(hR, .inr (2, [.ref (ed 0), .int e_length, .int v54149, .ref hp, .int 4, .int v54149, .int r54242, .long e_name, .int e_told, .int e_faultKind, .int e_faultPlace])), (ed 0, .inl (cyB, 1600, .inl e_text))] := hD
                  refine lv_aload_n hx hb dX2_advance_147 rfl (lv_at hl 0 rfl) ?_
                  refine lv_dup hx hb dX2_advance_148 rfl ?_
                  refine va_get (D := (dC, dI)) (ci := 2) (v := .int v54149) (C := RX2) (T := TX2) (N := 11) hx hb hts hi2 hown hK hP 0 rfl rfl 2 (by decide) (hts _ (ow_m (k := 0) rfl)) (fun _ h9 => h9) rfl dX2_advance_149 ?_
                  refine lv_iconst (v := 1) hx hb dX2_advance_152 (by decide) ?_
                  refine lv_iadd hx hb dX2_advance_153 ?_
                  refine lv_topi (fun z54259 ez54259 => ?_)
                  have tz54259 := ti_add (a := v54149.toInt) (b := 1) ez54259 rfl (by decide) (by omega) (by omega)
                  refine va_put (D := (dC, dI)) (ci := 2) (v := .int z54259) (ty := .int) (C := RX2) (T := TX2) (N := 11) hx hb hts hi2 tyX2 tyX2_ok nmX2 hown hK hP hD hS 0 rfl rfl 2 (by decide) (hts _ (ow_m (k := 0) rfl)) (fun _ h9 => h9) rfl (by decide +kernel) rfl rfl (Nat.le_of_ble_eq_true rfl) dX2_advance_154 (fun H locs hP hD hS => ?_)
                  have hP : va_P (dC, dI) vwCl [(hR, .inr (2, [.ref (ed 0), .int e_length, .int z54259, .ref hp, .int 4, .int v54149, .int r54242, .long e_name, .int e_told, .int e_faultKind, .int e_faultPlace])), (ed 0, .inl (cyB, 1600, .inl e_text))] H := hP
                  have hD : va_D A [(hR, .inr (2, [.ref (ed 0), .int e_length, .int z54259, .ref hp, .int 4, .int v54149, .int r54242, .long e_name, .int e_told, .int e_faultKind, .int e_faultPlace])), (ed 0, .inl (cyB, 1600, .inl e_text))] := hD
                  have w54260 : 0 ≤ z54259.toInt := by first | omega | assumption | rfl | (intros; rfl)
                  have w54261 : z54259.toInt ≤ 1600 := by first | omega | assumption | rfl | (intros; rfl)
                  have w54262 : 0 ≤ (4 : Int32).toInt := by first | omega | assumption | rfl | (intros; rfl)
                  have w54263 : (4 : Int32).toInt ≤ 5 := by first | omega | assumption | rfl | (intros; rfl)
                  have w54264 : 0 ≤ v54149.toInt := by first | omega | assumption | rfl | (intros; rfl)
                  have w54265 : v54149.toInt ≤ 1600 := by first | omega | assumption | rfl | (intros; rfl)
                  exact W.vret hx hb hr (fun t ht hW => ⟨⟨((fun _ => fun _ => 0), (fun k => match k with | 0 => z54259 | 1 => 4 | 2 => v54149 | _ => r54242), (fun _ => e_name), (fun _ => fun _ => 0)), rfl, ⟨w54260, w54261, w54262, w54263, w54264, w54265⟩, cE.of ht hP hD [0, 1] (by decide) rfl⟩, hS.F ht⟩) hS.2.2 dX2_advance_157
              · have c54241 := i_ne (a := r54237.toInt) (b := 0) c54241 rfl (by decide)
                refine lv_aload_n hx hb dX2_advance_106 rfl (lv_at hl 0 rfl) ?_
                refine gf_v (wr := []) (va_runV (As := []) (rest := []) hfix (k_Re_readDigits l dC dI cyB cyI cyJ cyZ cyO hR ed e_text e_length v54149 e_kind v54149 e_number e_told e_faultKind e_faultPlace e_name hp _ (by first | omega | assumption) (by first | omega | assumption) (by first | omega | assumption) (by first | omega | assumption) (by first | omega | assumption) (by first | omega | assumption) (by first | omega | assumption) (by first | omega | assumption)) (cwV 0 hts (gi_V (ow_m (k := 19) rfl) (ow_m (k := 20) rfl) (ow_m (k := 21) rfl) (ow_m (k := 6) rfl) (sb_c (sb_r (sb_r (sb_r (sb_r sb_l))))) gd_k_Re_readDigits) rfl rfl rfl (by decide +kernel) ⟨Nat.le_of_ble_eq_true rfl, Nat.le_of_ble_eq_true rfl⟩) (g_preV hKN hP hD [0, 1] rfl (by decide) 0 2 rfl rfl) rfl rfl hl.1 rfl (lv_room (Nat.le_of_ble_eq_true rfl)) dX2_advance_107 ⟨Nat.le_of_ble_eq_true rfl, Nat.le_of_ble_eq_true rfl⟩) hP hD hS hA [0, 1] [] rfl rfl (by decide) (by decide) (fun u54267 H locs qu54267 hP hD hS => ?_)
                obtain ⟨b54268, b54269, b54270, b54271⟩ := qu54267
                have hP : va_P (dC, dI) vwCl [(hR, .inr (2, [.ref (ed 0), .int e_length, .int (u54267.2.1 0), .ref hp, .int (u54267.2.1 1), .int v54149, .int (u54267.2.1 2), .long e_name, .int e_told, .int e_faultKind, .int e_faultPlace])), (ed 0, .inl (cyB, 1600, .inl e_text))] H := hP
                have hD : va_D A [(hR, .inr (2, [.ref (ed 0), .int e_length, .int (u54267.2.1 0), .ref hp, .int (u54267.2.1 1), .int v54149, .int (u54267.2.1 2), .long e_name, .int e_told, .int e_faultKind, .int e_faultPlace])), (ed 0, .inl (cyB, 1600, .inl e_text))] := hD
                refine lv_goto (tgt := 157) hx hb dX2_advance_110 (by decide) ?_
                have w54272 : 0 ≤ (u54267.2.1 0).toInt := by first | omega | assumption | rfl | (intros; rfl)
                have w54273 : (u54267.2.1 0).toInt ≤ 1600 := by first | omega | assumption | rfl | (intros; rfl)
                have w54274 : 0 ≤ (u54267.2.1 1).toInt := by first | omega | assumption | rfl | (intros; rfl)
                have w54275 : (u54267.2.1 1).toInt ≤ 5 := by first | omega | assumption | rfl | (intros; rfl)
                have w54276 : 0 ≤ v54149.toInt := by first | omega | assumption | rfl | (intros; rfl)
                have w54277 : v54149.toInt ≤ 1600 := by first | omega | assumption | rfl | (intros; rfl)
                exact W.vret hx hb hr (fun t ht hW => ⟨⟨((fun _ => fun _ => 0), (fun k => match k with | 0 => u54267.2.1 0 | 1 => u54267.2.1 1 | 2 => v54149 | _ => u54267.2.1 2), (fun _ => e_name), (fun _ => fun _ => 0)), rfl, ⟨w54272, w54273, w54274, w54275, w54276, w54277⟩, cE.of ht hP hD [0, 1] (by decide) rfl⟩, hS.F ht⟩) hS.2.2 dX2_advance_157
            · have c54236 := i_ne (a := r54232.toInt) (b := 0) c54236 rfl (by decide)
              refine lv_aload_n hx hb dX2_advance_88 rfl (lv_at hl 0 rfl) ?_
              refine gf_v (wr := []) (va_runV (As := []) (rest := []) hfix (k_Re_readLetters l dC dI cyB cyI cyJ cyZ cyO adK adV hR ed e_text e_length v54149 e_kind v54149 e_number e_told e_faultKind e_faultPlace e_name hp _ (by first | omega | assumption) (by first | omega | assumption) (by first | omega | assumption) (by first | omega | assumption) (by first | omega | assumption) (by first | omega | assumption) (by first | omega | assumption) (by first | omega | assumption)) (cwV 0 hts (gi_V (ow_m (k := 22) rfl) (ow_m (k := 23) rfl) (ow_m (k := 24) rfl) (ow_m (k := 6) rfl) (sb_c (sb_r (sb_r (sb_r (sb_r (sb_r sb_l)))))) gd_k_Re_readLetters) rfl rfl rfl (by decide +kernel) ⟨Nat.le_of_ble_eq_true rfl, Nat.le_of_ble_eq_true rfl⟩) (g_preVZ hZ hS hA hKN hP hD [0, 1] rfl (by decide) 0 2 rfl rfl) rfl rfl hl.1 rfl (lv_room (Nat.le_of_ble_eq_true rfl)) dX2_advance_89 ⟨Nat.le_of_ble_eq_true rfl, Nat.le_of_ble_eq_true rfl⟩) hP hD hS hA [0, 1] [] rfl rfl (by decide) (by decide) (fun u54279 H locs qu54279 hP hD hS => ?_)
              obtain ⟨b54280, b54281, b54282, b54283⟩ := qu54279
              have hP : va_P (dC, dI) vwCl [(hR, .inr (2, [.ref (ed 0), .int e_length, .int (u54279.2.1 0), .ref hp, .int (u54279.2.1 1), .int v54149, .int (u54279.2.1 2), .long (u54279.2.2.1 0), .int e_told, .int e_faultKind, .int e_faultPlace])), (ed 0, .inl (cyB, 1600, .inl e_text))] H := hP
              have hD : va_D A [(hR, .inr (2, [.ref (ed 0), .int e_length, .int (u54279.2.1 0), .ref hp, .int (u54279.2.1 1), .int v54149, .int (u54279.2.1 2), .long (u54279.2.2.1 0), .int e_told, .int e_faultKind, .int e_faultPlace])), (ed 0, .inl (cyB, 1600, .inl e_text))] := hD
              refine lv_goto (tgt := 157) hx hb dX2_advance_92 (by decide) ?_
              have w54284 : 0 ≤ (u54279.2.1 0).toInt := by first | omega | assumption | rfl | (intros; rfl)
              have w54285 : (u54279.2.1 0).toInt ≤ 1600 := by first | omega | assumption | rfl | (intros; rfl)
              have w54286 : 0 ≤ (u54279.2.1 1).toInt := by first | omega | assumption | rfl | (intros; rfl)
              have w54287 : (u54279.2.1 1).toInt ≤ 5 := by first | omega | assumption | rfl | (intros; rfl)
              have w54288 : 0 ≤ v54149.toInt := by first | omega | assumption | rfl | (intros; rfl)
              have w54289 : v54149.toInt ≤ 1600 := by first | omega | assumption | rfl | (intros; rfl)
              exact W.vret hx hb hr (fun t ht hW => ⟨⟨((fun _ => fun _ => 0), (fun k => match k with | 0 => u54279.2.1 0 | 1 => u54279.2.1 1 | 2 => v54149 | _ => u54279.2.1 2), (fun _ => u54279.2.2.1 0), (fun _ => fun _ => 0)), rfl, ⟨w54284, w54285, w54286, w54287, w54288, w54289⟩, cE.of ht hP hD [0, 1] (by decide) rfl⟩, hS.F ht⟩) hS.2.2 dX2_advance_157
          · have c54231 := i_nlt (a := v54149.toInt) (b := e_length.toInt) c54231 rfl rfl
            refine lv_aload_n hx hb dX2_advance_69 rfl (lv_at hl 0 rfl) ?_
            refine lv_iconst (v := 0) hx hb dX2_advance_70 (by decide) ?_
            refine va_put (D := (dC, dI)) (ci := 2) (v := .int 0) (ty := .int) (C := RX2) (T := TX2) (N := 11) hx hb hts hi2 tyX2 tyX2_ok nmX2 hown hK hP hD hS 0 rfl rfl 4 (by decide) (hts _ (ow_m (k := 18) rfl)) (fun _ h9 => h9) rfl (by decide +kernel) rfl rfl (Nat.le_of_ble_eq_true rfl) dX2_advance_71 (fun H locs hP hD hS => ?_)
            have hP : va_P (dC, dI) vwCl [(hR, .inr (2, [.ref (ed 0), .int e_length, .int v54149, .ref hp, .int 0, .int v54149, .int e_number, .long e_name, .int e_told, .int e_faultKind, .int e_faultPlace])), (ed 0, .inl (cyB, 1600, .inl e_text))] H := hP
            have hD : va_D A [(hR, .inr (2, [.ref (ed 0), .int e_length, .int v54149, .ref hp, .int 0, .int v54149, .int e_number, .long e_name, .int e_told, .int e_faultKind, .int e_faultPlace])), (ed 0, .inl (cyB, 1600, .inl e_text))] := hD
            refine lv_goto (tgt := 157) hx hb dX2_advance_74 (by decide) ?_
            have w54290 : 0 ≤ v54149.toInt := by first | omega | assumption | rfl | (intros; rfl)
            have w54291 : v54149.toInt ≤ 1600 := by first | omega | assumption | rfl | (intros; rfl)
            have w54292 : 0 ≤ (0 : Int32).toInt := by first | omega | assumption | rfl | (intros; rfl)
            have w54293 : (0 : Int32).toInt ≤ 5 := by first | omega | assumption | rfl | (intros; rfl)
            have w54294 : 0 ≤ v54149.toInt := by first | omega | assumption | rfl | (intros; rfl)
            have w54295 : v54149.toInt ≤ 1600 := by first | omega | assumption | rfl | (intros; rfl)
            exact W.vret hx hb hr (fun t ht hW => ⟨⟨((fun _ => fun _ => 0), (fun k => match k with | 0 => v54149 | 1 => 0 | 2 => v54149 | _ => e_number), (fun _ => e_name), (fun _ => fun _ => 0)), rfl, ⟨w54290, w54291, w54292, w54293, w54294, w54295⟩, cE.of ht hP hD [0, 1] (by decide) rfl⟩, hS.F ht⟩) hS.2.2 dX2_advance_157
        · have c54230 := i_eq (a := r54226.toInt) (b := 10) c54230 rfl (by decide)
          refine lv_aload_n hx hb dX2_advance_37 rfl (lv_at hl 0 rfl) ?_
          refine lv_dup hx hb dX2_advance_38 rfl ?_
          refine va_get (D := (dC, dI)) (ci := 2) (v := .int v54149) (C := RX2) (T := TX2) (N := 11) hx hb hts hi2 hown hK hP 0 rfl rfl 2 (by decide) (hts _ (ow_m (k := 0) rfl)) (fun _ h9 => h9) rfl dX2_advance_39 ?_
          refine lv_iconst (v := 1) hx hb dX2_advance_42 (by decide) ?_
          refine lv_iadd hx hb dX2_advance_43 ?_
          refine lv_topi (fun z54296 ez54296 => ?_)
          have tz54296 := ti_add (a := v54149.toInt) (b := 1) ez54296 rfl (by decide) (by omega) (by omega)
          refine va_put (D := (dC, dI)) (ci := 2) (v := .int z54296) (ty := .int) (C := RX2) (T := TX2) (N := 11) hx hb hts hi2 tyX2 tyX2_ok nmX2 hown hK hP hD hS 0 rfl rfl 2 (by decide) (hts _ (ow_m (k := 0) rfl)) (fun _ h9 => h9) rfl (by decide +kernel) rfl rfl (Nat.le_of_ble_eq_true rfl) dX2_advance_44 (fun H locs hP hD hS => ?_)
          have hP : va_P (dC, dI) vwCl [(hR, .inr (2, [.ref (ed 0), .int e_length, .int z54296, .ref hp, .int e_kind, .int e_start, .int e_number, .long e_name, .int e_told, .int e_faultKind, .int e_faultPlace])), (ed 0, .inl (cyB, 1600, .inl e_text))] H := hP
          have hD : va_D A [(hR, .inr (2, [.ref (ed 0), .int e_length, .int z54296, .ref hp, .int e_kind, .int e_start, .int e_number, .long e_name, .int e_told, .int e_faultKind, .int e_faultPlace])), (ed 0, .inl (cyB, 1600, .inl e_text))] := hD
          refine lv_goto (tgt := 0) hx hb dX2_advance_47 (by decide) ?_
          have hl := lv_sub (l' := [(0, .ref hR)]) hl [0] rfl
          apply ih54153 (v54149 := z54296) (H := H) (locs := locs) (ls := ls) <;> first | assumption | omega
def wo_k_Re_isOneTooMany : List Cond := [.fieldLink RX2 19 "ReplicaChain$Reader" "plan" "LReplicaChain$Plan;", .fieldLink RX2 86 "ReplicaChain$Plan" "nodeCount" "I", .fieldLink RX2 89 "ReplicaChain$Plan" "memberCount" "I", .fieldLink RX2 92 "ReplicaChain$Plan" "keyCount" "I", .fieldLink RX2 40 "ReplicaChain$Reader" "told" "I"]
def wq_k_Re_isOneTooMany : List Cond := .code yX2_isOneTooMany cX2_isOneTooMany 2 (some .boolean) :: (wo_k_Re_isOneTooMany ++ (wsX10 ++ (wsX20 ++ [])))
theorem gd_k_Re_isOneTooMany : Gd wq_k_Re_isOneTooMany := gd_c (gd_a (gd_o (by decide +kernel)) (gd_a gd_u (gd_a gd_u gd_0)))
abbrev wc_k_Re_isOneTooMany (cyB cyI cyJ cyZ cyO : ClassId) (hR : Nat) (ed : Nat → Nat) (e_length : Int32) (e_at : Int32) (e_kind : Int32) (e_start : Int32) (e_number : Int32) (e_told : Int32) (e_faultKind : Int32) (e_faultPlace : Int32) (e_name : Int64) (hp : Nat) (pd : Nat → Nat) (p_mC : Int32) (p_nC : Int32) (p_kC : Int32) (p_units : Int32) (p_copy : Int32) (p_loss : Int32) (p_draw : Int32) (x1 : Int32) (hf : Nat) : va_W := [(hR, .inr (2, [.ref (ed 0), .int e_length, .int e_at, .ref hp, .int e_kind, .int e_start, .int e_number, .long e_name, .int e_told, .int e_faultKind, .int e_faultPlace])), (hp, .inr (1, [.ref (pd 0), .ref (pd 1), .ref (pd 2), .ref hf, .int p_mC, .int p_nC, .int p_kC, .int p_units, .int p_copy, .int p_loss, .int p_draw]))]
set_option maxHeartbeats 4000000 in
set_option maxRecDepth 100000 in
theorem k_Re_isOneTooMany (l : Launch) (dC : Nat → ClassId) (dI : Nat → Nat → Nat) (cyB cyI cyJ cyZ cyO : ClassId) (hR : Nat) (ed : Nat → Nat) (e_length : Int32) (e_at : Int32) (e_kind : Int32) (e_start : Int32) (e_number : Int32) (e_told : Int32) (e_faultKind : Int32) (e_faultPlace : Int32) (e_name : Int64) (hp : Nat) (pd : Nat → Nat) (p_mC : Int32) (p_nC : Int32) (p_kC : Int32) (p_units : Int32) (p_copy : Int32) (p_loss : Int32) (p_draw : Int32) (x1 : Int32) (hf : Nat) (sz : Nat) (l_e_length : 0 ≤ e_length.toInt) (u_e_length : e_length.toInt ≤ 1600) (l_e_at : 0 ≤ e_at.toInt) (u_e_at : e_at.toInt ≤ 1600) (l_e_kind : 0 ≤ e_kind.toInt) (u_e_kind : e_kind.toInt ≤ 5) (l_e_start : 0 ≤ e_start.toInt) (u_e_start : e_start.toInt ≤ 1600) (l_p_mC : 0 ≤ p_mC.toInt) (u_p_mC : p_mC.toInt ≤ 6) (l_p_nC : 0 ≤ p_nC.toInt) (u_p_nC : p_nC.toInt ≤ 8) (l_p_kC : 0 ≤ p_kC.toInt) (u_p_kC : p_kC.toInt ≤ 4) (l_x1 : 0 ≤ x1.toInt) (u_x1 : x1.toInt ≤ 6) : Met l yX2_isOneTooMany wq_k_Re_isOneTooMany ({ frames := 0, cells := 0, slots := 0, locals := 0 }) (va_Pc [.ref hR, .int x1] (cB (dC, dI) (kT cyB cyI cyJ cyZ cyO) (wc_k_Re_isOneTooMany cyB cyI cyJ cyZ cyO hR ed e_length e_at e_kind e_start e_number e_told e_faultKind e_faultPlace e_name hp pd p_mC p_nC p_kC p_units p_copy p_loss p_draw x1 hf) sz)) (va_Qi (fun (r : Int32) (u : Unit) => (((r = 1) ∨ (r = 0 ∧ (x1.toInt = 0 → p_nC.toInt ≤ 7 ∧ p_mC.toInt ≤ 5) ∧ (x1.toInt = 1 → p_nC.toInt ≤ 7) ∧ (x1.toInt = 2 → p_kC.toInt ≤ 3))))) (fun (u : Unit) t => cE (dC, dI) (va_A (wc_k_Re_isOneTooMany cyB cyI cyJ cyZ cyO hR ed e_length e_at e_kind e_start e_number e_told e_faultKind e_faultPlace e_name hp pd p_mC p_nC p_kC p_units p_copy p_loss p_draw x1 hf) sz) ([(hR, .inr (2, [.ref (ed 0), .int e_length, .int e_at, .ref hp, .int e_kind, .int e_start, .int e_number, .long e_name, .int e_told, .int e_faultKind, .int e_faultPlace])), (hp, .inr (1, [.ref (pd 0), .ref (pd 1), .ref (pd 2), .ref hf, .int p_mC, .int p_nC, .int p_kC, .int p_units, .int p_copy, .int p_loss, .int p_draw]))]) t.heap) (va_A (wc_k_Re_isOneTooMany cyB cyI cyJ cyZ cyO hR ed e_length e_at e_kind e_start e_number e_told e_faultKind e_faultPlace e_name hp pd p_mC p_nC p_kC p_units p_copy p_loss p_draw x1 hf) sz)) 0 0 (va_A (wc_k_Re_isOneTooMany cyB cyI cyJ cyZ cyO hR ed e_length e_at e_kind e_start e_number e_told e_faultKind e_faultPlace e_name hp pd p_mC p_nC p_kC p_units p_copy p_loss p_draw x1 hf) sz) := by
  refine Met.ofW (cc := cX2_isOneTooMany) (maxL := 2) (ret := (some .boolean)) (by decide) rfl ?_
  intro p e s m args below meth c s₁ B hml hv
  obtain ⟨rfl, hsz, hP, hKN, hD0⟩ := hv
  have hx := B.exec
  have hb := B.bytes
  have hr := B.returns
  have hts := atoms_spec (ws := wq_k_Re_isOneTooMany) B.pre
  have hown : s.vm.findClass RX2 = some m.cls := findClass_of_methodNamed B.named
  have hlocks := B.notSynchronized
  have hK := hKN.1
  have hfix : CallFix p m c cX2_isOneTooMany 2 s [.ref hR, .int x1].toArray wq_k_Re_isOneTooMany RX2 := ⟨hx, hb, hml, hown, hts⟩
  have hi1 : ∀ w ∈ wsX10, w ∈ wq_k_Re_isOneTooMany := (sb_c sb_l)
  have hi2 : ∀ w ∈ wsX20, w ∈ wq_k_Re_isOneTooMany := (sb_c (sb_r sb_l))
  subst hsz
  have hD := hD0.self (sz := s.heap.size)
  generalize hAe : va_A (wc_k_Re_isOneTooMany cyB cyI cyJ cyZ cyO hR ed e_length e_at e_kind e_start e_number e_told e_faultKind e_faultPlace e_name hp pd p_mC p_nC p_kC p_units p_copy p_loss p_draw x1 hf) s.heap.size = A at hD ⊢
  have hA : ∀ q : Nat, s.heap.size ≤ q → A q := fun q h => by rw [← hAe]; exact Or.inr h
  have hS : va_S A s.heap s.heap [] := va_S.rf
  have hl := lv_entry ([.ref hR, .int x1]) (n := 2) (Nat.le_of_ble_eq_true rfl)
  rw [lg_entry_eq]
  generalize (lg_sl ([.ref hR, .int x1]) ++ List.replicate (2 - (lg_sl ([.ref hR, .int x1])).length) Slot.unset).toArray = ls at hl ⊢
  have hl : lv_has ls 2 [(0, .ref hR), (1, .int x1)] := hl
  refine lv_iload_n hx hb dX2_isOneTooMany_0 rfl (lv_at hl 1 rfl) ?_
  by_cases c54317 : x1 = 0
  · have c54317i := i_eq (b := 0) c54317 rfl (by decide)
    refine lv_tableIn (tgt := 28) hx hb dX2_isOneTooMany_1 (by rw [c54317]; decide) (by rw [c54317]; decide) (by first | (rw [c54317]; done) | (rw [c54317]; rfl)) (by decide) ?_
    refine lv_aload_n hx hb dX2_isOneTooMany_28 rfl (lv_at hl 0 rfl) ?_
    refine va_get (D := (dC, dI)) (ci := 2) (v := .ref hp) (C := RX2) (T := TX2) (N := 11) hx hb hts hi2 hown hK hP 0 rfl rfl 3 (by decide) (hts _ (ow_m (k := 0) rfl)) (fun _ h9 => h9) rfl dX2_isOneTooMany_29 ?_
    refine va_get (D := (dC, dI)) (ci := 1) (v := .int p_nC) (C := RX1) (T := TX1) (N := 11) hx hb hts hi1 hown hK hP 1 rfl rfl 5 (by decide) (hts _ (ow_m (k := 1) rfl)) (fun _ h9 => h9) rfl dX2_isOneTooMany_32 ?_
    refine lv_bipush (v := 8) hx hb dX2_isOneTooMany_35 (by decide) ?_
    refine lv_icmp_ge (tgt := 52) hx hb dX2_isOneTooMany_37 (by decide) (fun c54318 => ?_) (fun c54318 => ?_)
    · have c54318 := i_le (a := 8) (b := p_nC.toInt) c54318 (by decide) rfl
      refine lv_iconst (v := 1) hx hb dX2_isOneTooMany_52 (by decide) ?_
      refine lv_goto (tgt := 57) hx hb dX2_isOneTooMany_53 (by decide) ?_
      exact W.zret (v := 1) hx hb hr (by decide) (fun t ht hW => ⟨⟨1, (), rfl, (Or.inl rfl), cE.of ht hP hD [0, 1] (by decide) rfl⟩, hS.F ht⟩) hS.2.2 dX2_isOneTooMany_57
    · have c54318 := i_nle (a := 8) (b := p_nC.toInt) c54318 (by decide) rfl
      refine lv_aload_n hx hb dX2_isOneTooMany_40 rfl (lv_at hl 0 rfl) ?_
      refine va_get (D := (dC, dI)) (ci := 2) (v := .ref hp) (C := RX2) (T := TX2) (N := 11) hx hb hts hi2 hown hK hP 0 rfl rfl 3 (by decide) (hts _ (ow_m (k := 0) rfl)) (fun _ h9 => h9) rfl dX2_isOneTooMany_41 ?_
      refine va_get (D := (dC, dI)) (ci := 1) (v := .int p_mC) (C := RX1) (T := TX1) (N := 11) hx hb hts hi1 hown hK hP 1 rfl rfl 4 (by decide) (hts _ (ow_m (k := 2) rfl)) (fun _ h9 => h9) rfl dX2_isOneTooMany_44 ?_
      refine lv_bipush (v := 6) hx hb dX2_isOneTooMany_47 (by decide) ?_
      refine lv_icmp_lt (tgt := 56) hx hb dX2_isOneTooMany_49 (by decide) (fun c54319 => ?_) (fun c54319 => ?_)
      · have c54319 := i_lt (a := p_mC.toInt) (b := 6) c54319 rfl (by decide)
        refine lv_iconst (v := 0) hx hb dX2_isOneTooMany_56 (by decide) ?_
        have w54320 : x1.toInt = 0 → p_nC.toInt ≤ 7 ∧ p_mC.toInt ≤ 5 := by first | omega | assumption | rfl
        have w54321 : x1.toInt = 1 → p_nC.toInt ≤ 7 := by first | omega | assumption | rfl
        have w54322 : x1.toInt = 2 → p_kC.toInt ≤ 3 := by first | omega | assumption | rfl
        exact W.zret (v := 0) hx hb hr (by decide) (fun t ht hW => ⟨⟨0, (), rfl, (Or.inr ⟨rfl, w54320, w54321, w54322⟩), cE.of ht hP hD [0, 1] (by decide) rfl⟩, hS.F ht⟩) hS.2.2 dX2_isOneTooMany_57
      · have c54319 := i_nlt (a := p_mC.toInt) (b := 6) c54319 rfl (by decide)
        refine lv_iconst (v := 1) hx hb dX2_isOneTooMany_52 (by decide) ?_
        refine lv_goto (tgt := 57) hx hb dX2_isOneTooMany_53 (by decide) ?_
        exact W.zret (v := 1) hx hb hr (by decide) (fun t ht hW => ⟨⟨1, (), rfl, (Or.inl rfl), cE.of ht hP hD [0, 1] (by decide) rfl⟩, hS.F ht⟩) hS.2.2 dX2_isOneTooMany_57
  have c54317i := i_ne (b := 0) c54317 rfl (by decide)
  by_cases c54323 : x1 = 1
  · have c54323i := i_eq (b := 1) c54323 rfl (by decide)
    refine lv_tableIn (tgt := 58) hx hb dX2_isOneTooMany_1 (by rw [c54323]; decide) (by rw [c54323]; decide) (by first | (rw [c54323]; done) | (rw [c54323]; rfl)) (by decide) ?_
    refine lv_aload_n hx hb dX2_isOneTooMany_58 rfl (lv_at hl 0 rfl) ?_
    refine va_get (D := (dC, dI)) (ci := 2) (v := .ref hp) (C := RX2) (T := TX2) (N := 11) hx hb hts hi2 hown hK hP 0 rfl rfl 3 (by decide) (hts _ (ow_m (k := 0) rfl)) (fun _ h9 => h9) rfl dX2_isOneTooMany_59 ?_
    refine va_get (D := (dC, dI)) (ci := 1) (v := .int p_nC) (C := RX1) (T := TX1) (N := 11) hx hb hts hi1 hown hK hP 1 rfl rfl 5 (by decide) (hts _ (ow_m (k := 1) rfl)) (fun _ h9 => h9) rfl dX2_isOneTooMany_62 ?_
    refine lv_bipush (v := 8) hx hb dX2_isOneTooMany_65 (by decide) ?_
    refine lv_icmp_lt (tgt := 74) hx hb dX2_isOneTooMany_67 (by decide) (fun c54324 => ?_) (fun c54324 => ?_)
    · have c54324 := i_lt (a := p_nC.toInt) (b := 8) c54324 rfl (by decide)
      refine lv_iconst (v := 0) hx hb dX2_isOneTooMany_74 (by decide) ?_
      have w54325 : x1.toInt = 0 → p_nC.toInt ≤ 7 ∧ p_mC.toInt ≤ 5 := by first | omega | assumption | rfl
      have w54326 : x1.toInt = 1 → p_nC.toInt ≤ 7 := by first | omega | assumption | rfl
      have w54327 : x1.toInt = 2 → p_kC.toInt ≤ 3 := by first | omega | assumption | rfl
      exact W.zret (v := 0) hx hb hr (by decide) (fun t ht hW => ⟨⟨0, (), rfl, (Or.inr ⟨rfl, w54325, w54326, w54327⟩), cE.of ht hP hD [0, 1] (by decide) rfl⟩, hS.F ht⟩) hS.2.2 dX2_isOneTooMany_75
    · have c54324 := i_nlt (a := p_nC.toInt) (b := 8) c54324 rfl (by decide)
      refine lv_iconst (v := 1) hx hb dX2_isOneTooMany_70 (by decide) ?_
      refine lv_goto (tgt := 75) hx hb dX2_isOneTooMany_71 (by decide) ?_
      exact W.zret (v := 1) hx hb hr (by decide) (fun t ht hW => ⟨⟨1, (), rfl, (Or.inl rfl), cE.of ht hP hD [0, 1] (by decide) rfl⟩, hS.F ht⟩) hS.2.2 dX2_isOneTooMany_75
  have c54323i := i_ne (b := 1) c54323 rfl (by decide)
  by_cases c54328 : x1 = 2
  · have c54328i := i_eq (b := 2) c54328 rfl (by decide)
    refine lv_tableIn (tgt := 76) hx hb dX2_isOneTooMany_1 (by rw [c54328]; decide) (by rw [c54328]; decide) (by first | (rw [c54328]; done) | (rw [c54328]; rfl)) (by decide) ?_
    refine lv_aload_n hx hb dX2_isOneTooMany_76 rfl (lv_at hl 0 rfl) ?_
    refine va_get (D := (dC, dI)) (ci := 2) (v := .ref hp) (C := RX2) (T := TX2) (N := 11) hx hb hts hi2 hown hK hP 0 rfl rfl 3 (by decide) (hts _ (ow_m (k := 0) rfl)) (fun _ h9 => h9) rfl dX2_isOneTooMany_77 ?_
    refine va_get (D := (dC, dI)) (ci := 1) (v := .int p_kC) (C := RX1) (T := TX1) (N := 11) hx hb hts hi1 hown hK hP 1 rfl rfl 6 (by decide) (hts _ (ow_m (k := 3) rfl)) (fun _ h9 => h9) rfl dX2_isOneTooMany_80 ?_
    refine lv_iconst (v := 4) hx hb dX2_isOneTooMany_83 (by decide) ?_
    refine lv_icmp_lt (tgt := 91) hx hb dX2_isOneTooMany_84 (by decide) (fun c54329 => ?_) (fun c54329 => ?_)
    · have c54329 := i_lt (a := p_kC.toInt) (b := 4) c54329 rfl (by decide)
      refine lv_iconst (v := 0) hx hb dX2_isOneTooMany_91 (by decide) ?_
      have w54330 : x1.toInt = 0 → p_nC.toInt ≤ 7 ∧ p_mC.toInt ≤ 5 := by first | omega | assumption | rfl
      have w54331 : x1.toInt = 1 → p_nC.toInt ≤ 7 := by first | omega | assumption | rfl
      have w54332 : x1.toInt = 2 → p_kC.toInt ≤ 3 := by first | omega | assumption | rfl
      exact W.zret (v := 0) hx hb hr (by decide) (fun t ht hW => ⟨⟨0, (), rfl, (Or.inr ⟨rfl, w54330, w54331, w54332⟩), cE.of ht hP hD [0, 1] (by decide) rfl⟩, hS.F ht⟩) hS.2.2 dX2_isOneTooMany_92
    · have c54329 := i_nlt (a := p_kC.toInt) (b := 4) c54329 rfl (by decide)
      refine lv_iconst (v := 1) hx hb dX2_isOneTooMany_87 (by decide) ?_
      refine lv_goto (tgt := 92) hx hb dX2_isOneTooMany_88 (by decide) ?_
      exact W.zret (v := 1) hx hb hr (by decide) (fun t ht hW => ⟨⟨1, (), rfl, (Or.inl rfl), cE.of ht hP hD [0, 1] (by decide) rfl⟩, hS.F ht⟩) hS.2.2 dX2_isOneTooMany_92
  have c54328i := i_ne (b := 2) c54328 rfl (by decide)
  refine lv_tableOut (tgt := 93) hx hb dX2_isOneTooMany_1 (by omega) (by decide) ?_
  refine lv_aload_n hx hb dX2_isOneTooMany_93 rfl (lv_at hl 0 rfl) ?_
  refine va_get (D := (dC, dI)) (ci := 2) (v := .int e_told) (C := RX2) (T := TX2) (N := 11) hx hb hts hi2 hown hK hP 0 rfl rfl 8 (by decide) (hts _ (ow_m (k := 4) rfl)) (fun _ h9 => h9) rfl dX2_isOneTooMany_94 ?_
  refine lv_iload_n hx hb dX2_isOneTooMany_97 rfl (lv_at hl 1 rfl) ?_
  refine lv_ishr hx hb dX2_isOneTooMany_98 ?_
  refine lv_topi (fun z54333 ez54333 => ?_)
  refine lv_iconst (v := 1) hx hb dX2_isOneTooMany_99 (by decide) ?_
  refine lv_iand hx hb dX2_isOneTooMany_100 ?_
  refine lv_topi (fun z54334 ez54334 => ?_)
  have tz54334 := ti_and z54333 (m := 1) 1 ez54334 rfl (by decide)
  refine lv_iconst (v := 1) hx hb dX2_isOneTooMany_101 (by decide) ?_
  refine lv_icmp_ne (tgt := 109) hx hb dX2_isOneTooMany_102 (by decide) (fun c54335 => ?_) (fun c54335 => ?_)
  · have c54335 := i_ne (a := z54334.toInt) (b := 1) c54335 rfl (by decide)
    refine lv_iconst (v := 0) hx hb dX2_isOneTooMany_109 (by decide) ?_
    have w54336 : x1.toInt = 0 → p_nC.toInt ≤ 7 ∧ p_mC.toInt ≤ 5 := by first | omega | assumption | rfl
    have w54337 : x1.toInt = 1 → p_nC.toInt ≤ 7 := by first | omega | assumption | rfl
    have w54338 : x1.toInt = 2 → p_kC.toInt ≤ 3 := by first | omega | assumption | rfl
    exact W.zret (v := 0) hx hb hr (by decide) (fun t ht hW => ⟨⟨0, (), rfl, (Or.inr ⟨rfl, w54336, w54337, w54338⟩), cE.of ht hP hD [0, 1] (by decide) rfl⟩, hS.F ht⟩) hS.2.2 dX2_isOneTooMany_110
  · have c54335 := i_eq (a := z54334.toInt) (b := 1) c54335 rfl (by decide)
    refine lv_iconst (v := 1) hx hb dX2_isOneTooMany_105 (by decide) ?_
    refine lv_goto (tgt := 110) hx hb dX2_isOneTooMany_106 (by decide) ?_
    exact W.zret (v := 1) hx hb hr (by decide) (fun t ht hW => ⟨⟨1, (), rfl, (Or.inl rfl), cE.of ht hP hD [0, 1] (by decide) rfl⟩, hS.F ht⟩) hS.2.2 dX2_isOneTooMany_110
def wo_k_Re_isTold_nN : List Cond := [.fieldLink RX2 106 "ReplicaChain$Reader" "name" "J"]
def wq_k_Re_isTold_nN : List Cond := .code yX2_isTold cX2_isTold 4 (some .boolean) :: (wo_k_Re_isTold_nN ++ (wsX20 ++ []))
theorem gd_k_Re_isTold_nN : Gd wq_k_Re_isTold_nN := gd_c (gd_a (gd_o (by decide +kernel)) (gd_a gd_u gd_0))
abbrev wc_k_Re_isTold_nN (cyB cyI cyJ cyZ cyO : ClassId) (hR : Nat) (ed : Nat → Nat) (e_length : Int32) (e_at : Int32) (e_kind : Int32) (e_start : Int32) (e_number : Int32) (e_told : Int32) (e_faultKind : Int32) (e_faultPlace : Int32) (e_name : Int64) (hp : Nat) (pd : Nat → Nat) (p_nN : Nat → Int64) (p_mC : Int32) (p_nC : Int32) (p_kC : Int32) (p_units : Int32) (p_copy : Int32) (p_loss : Int32) (p_draw : Int32) (x2 : Int32) (hf : Nat) : va_W := [(hR, .inr (2, [.ref (ed 0), .int e_length, .int e_at, .ref hp, .int e_kind, .int e_start, .int e_number, .long e_name, .int e_told, .int e_faultKind, .int e_faultPlace])), (hp, .inr (1, [.ref (pd 0), .ref (pd 1), .ref (pd 2), .ref hf, .int p_mC, .int p_nC, .int p_kC, .int p_units, .int p_copy, .int p_loss, .int p_draw])), (pd 1, .inl (cyJ, 8, .inr (.inl p_nN)))]
set_option maxHeartbeats 4000000 in
set_option maxRecDepth 100000 in
theorem k_Re_isTold_nN (l : Launch) (dC : Nat → ClassId) (dI : Nat → Nat → Nat) (cyB cyI cyJ cyZ cyO : ClassId) (hR : Nat) (ed : Nat → Nat) (e_length : Int32) (e_at : Int32) (e_kind : Int32) (e_start : Int32) (e_number : Int32) (e_told : Int32) (e_faultKind : Int32) (e_faultPlace : Int32) (e_name : Int64) (hp : Nat) (pd : Nat → Nat) (p_nN : Nat → Int64) (p_mC : Int32) (p_nC : Int32) (p_kC : Int32) (p_units : Int32) (p_copy : Int32) (p_loss : Int32) (p_draw : Int32) (x2 : Int32) (hf : Nat) (sz : Nat) (l_e_length : 0 ≤ e_length.toInt) (u_e_length : e_length.toInt ≤ 1600) (l_e_at : 0 ≤ e_at.toInt) (u_e_at : e_at.toInt ≤ 1600) (l_e_kind : 0 ≤ e_kind.toInt) (u_e_kind : e_kind.toInt ≤ 5) (l_e_start : 0 ≤ e_start.toInt) (u_e_start : e_start.toInt ≤ 1600) (l_p_mC : 0 ≤ p_mC.toInt) (u_p_mC : p_mC.toInt ≤ 6) (l_p_nC : 0 ≤ p_nC.toInt) (u_p_nC : p_nC.toInt ≤ 8) (l_p_kC : 0 ≤ p_kC.toInt) (u_p_kC : p_kC.toInt ≤ 4) : Met l yX2_isTold wq_k_Re_isTold_nN ({ frames := 0, cells := 0, slots := 0, locals := 0 }) (va_Pc [.ref hR, .ref (pd 1), .int x2] (cB (dC, dI) (kT cyB cyI cyJ cyZ cyO) (wc_k_Re_isTold_nN cyB cyI cyJ cyZ cyO hR ed e_length e_at e_kind e_start e_number e_told e_faultKind e_faultPlace e_name hp pd p_nN p_mC p_nC p_kC p_units p_copy p_loss p_draw x2 hf) sz)) (va_Qi (fun (r : Int32) (u : Unit) => (0 ≤ r.toInt) ∧ (r.toInt ≤ 1)) (fun (u : Unit) t => cE (dC, dI) (va_A (wc_k_Re_isTold_nN cyB cyI cyJ cyZ cyO hR ed e_length e_at e_kind e_start e_number e_told e_faultKind e_faultPlace e_name hp pd p_nN p_mC p_nC p_kC p_units p_copy p_loss p_draw x2 hf) sz) ([(hR, .inr (2, [.ref (ed 0), .int e_length, .int e_at, .ref hp, .int e_kind, .int e_start, .int e_number, .long e_name, .int e_told, .int e_faultKind, .int e_faultPlace])), (hp, .inr (1, [.ref (pd 0), .ref (pd 1), .ref (pd 2), .ref hf, .int p_mC, .int p_nC, .int p_kC, .int p_units, .int p_copy, .int p_loss, .int p_draw])), (pd 1, .inl (cyJ, 8, .inr (.inl p_nN)))]) t.heap) (va_A (wc_k_Re_isTold_nN cyB cyI cyJ cyZ cyO hR ed e_length e_at e_kind e_start e_number e_told e_faultKind e_faultPlace e_name hp pd p_nN p_mC p_nC p_kC p_units p_copy p_loss p_draw x2 hf) sz)) 0 0 (va_A (wc_k_Re_isTold_nN cyB cyI cyJ cyZ cyO hR ed e_length e_at e_kind e_start e_number e_told e_faultKind e_faultPlace e_name hp pd p_nN p_mC p_nC p_kC p_units p_copy p_loss p_draw x2 hf) sz) := by
  refine Met.ofW (cc := cX2_isTold) (maxL := 4) (ret := (some .boolean)) (by decide) rfl ?_
  intro p e s m args below meth c s₁ B hml hv
  obtain ⟨rfl, hsz, hP, hKN, hD0⟩ := hv
  have hx := B.exec
  have hb := B.bytes
  have hr := B.returns
  have hts := atoms_spec (ws := wq_k_Re_isTold_nN) B.pre
  have hown : s.vm.findClass RX2 = some m.cls := findClass_of_methodNamed B.named
  have hlocks := B.notSynchronized
  have hK := hKN.1
  have hfix : CallFix p m c cX2_isTold 4 s [.ref hR, .ref (pd 1), .int x2].toArray wq_k_Re_isTold_nN RX2 := ⟨hx, hb, hml, hown, hts⟩
  have hi2 : ∀ w ∈ wsX20, w ∈ wq_k_Re_isTold_nN := (sb_c sb_l)
  subst hsz
  have hD := hD0.self (sz := s.heap.size)
  generalize hAe : va_A (wc_k_Re_isTold_nN cyB cyI cyJ cyZ cyO hR ed e_length e_at e_kind e_start e_number e_told e_faultKind e_faultPlace e_name hp pd p_nN p_mC p_nC p_kC p_units p_copy p_loss p_draw x2 hf) s.heap.size = A at hD ⊢
  have hA : ∀ q : Nat, s.heap.size ≤ q → A q := fun q h => by rw [← hAe]; exact Or.inr h
  have hS : va_S A s.heap s.heap [] := va_S.rf
  have hl := lv_entry ([.ref hR, .ref (pd 1), .int x2]) (n := 4) (Nat.le_of_ble_eq_true rfl)
  rw [lg_entry_eq]
  generalize (lg_sl ([.ref hR, .ref (pd 1), .int x2]) ++ List.replicate (4 - (lg_sl ([.ref hR, .ref (pd 1), .int x2])).length) Slot.unset).toArray = ls at hl ⊢
  have hl : lv_has ls 4 [(0, .ref hR), (1, .ref (pd 1)), (2, .int x2)] := hl
  have ck0 : (0 : Int32).toInt = 0 := by decide
  have ck1 : (1 : Int32).toInt = 1 := by decide
  refine lv_iconst (v := 0) hx hb dX2_isTold_0 (by decide) ?_
  refine lv_istore_n (lv' := [(3, .int 0), (0, .ref hR), (1, .ref (pd 1)), (2, .int x2)]) hx hb dX2_isTold_1 rfl hl (by decide) rfl (fun ls hl => ?_)
  refine w_gen (fun H locs ls hP hS hl => ?_) hP hS hl
  obtain ⟨v54529, hl2, hP2, hD2, b54530, b54531⟩ : ∃ (v54529 : Int32), lv_has ls 4 [(3, .int v54529), (0, .ref hR), (1, .ref (pd 1)), (2, .int x2)] ∧ va_P (dC, dI) vwCl [(hR, .inr (2, [.ref (ed 0), .int e_length, .int e_at, .ref hp, .int e_kind, .int e_start, .int e_number, .long e_name, .int e_told, .int e_faultKind, .int e_faultPlace])), (hp, .inr (1, [.ref (pd 0), .ref (pd 1), .ref (pd 2), .ref hf, .int p_mC, .int p_nC, .int p_kC, .int p_units, .int p_copy, .int p_loss, .int p_draw])), (pd 1, .inl (cyJ, 8, .inr (.inl p_nN)))] H ∧ va_D A [(hR, .inr (2, [.ref (ed 0), .int e_length, .int e_at, .ref hp, .int e_kind, .int e_start, .int e_number, .long e_name, .int e_told, .int e_faultKind, .int e_faultPlace])), (hp, .inr (1, [.ref (pd 0), .ref (pd 1), .ref (pd 2), .ref hf, .int p_mC, .int p_nC, .int p_kC, .int p_units, .int p_copy, .int p_loss, .int p_draw])), (pd 1, .inl (cyJ, 8, .inr (.inl p_nN)))] ∧ (0 ≤ v54529.toInt) ∧ (v54529.toInt ≤ 8) := ⟨(0 : Int32), hl, hP, hD, by first | assumption | omega, by first | assumption | omega⟩
  clear hP hl
  have hP := hP2
  have hD := hD2
  have hl := hl2
  clear hP2 hD2 hl2
  obtain ⟨n54532, hn54532⟩ : ∃ n : Nat, 8 - v54529.toInt < (n : Int) := ⟨(8 - v54529.toInt).toNat + 1, by omega⟩
  induction n54532 generalizing v54529 H locs ls with
  | zero => exfalso; omega
  | succ n54532 ih54533 =>
    refine lv_iload_n hx hb dX2_isTold_2 rfl (lv_at hl 0 rfl) ?_
    refine lv_iload_n hx hb dX2_isTold_3 rfl (lv_at hl 3 rfl) ?_
    refine lv_icmp_ge (tgt := 32) hx hb dX2_isTold_4 (by decide) (fun c54534 => ?_) (fun c54534 => ?_)
    · have c54534 := i_le (a := x2.toInt) (b := v54529.toInt) c54534 rfl rfl
      refine lv_iconst (v := 0) hx hb dX2_isTold_32 (by decide) ?_
      have w54535 : 0 ≤ (0 : Int32).toInt := by first | omega | assumption | rfl | (intros; rfl)
      have w54536 : (0 : Int32).toInt ≤ 1 := by first | omega | assumption | rfl | (intros; rfl)
      exact W.zret (v := 0) hx hb hr (by decide) (fun t ht hW => ⟨⟨0, (), rfl, ⟨w54535, w54536⟩, cE.of ht hP hD [0, 1, 2] (by decide) rfl⟩, hS.F ht⟩) hS.2.2 dX2_isTold_33
    · have c54534 := i_nle (a := x2.toInt) (b := v54529.toInt) c54534 rfl rfl
      refine lv_iload_n hx hb dX2_isTold_7 rfl (lv_at hl 0 rfl) ?_
      refine lv_aload_n hx hb dX2_isTold_8 rfl (lv_at hl 2 rfl) ?_
      refine va_alen (v := 8) hx hb hK hP 2 2 rfl rfl rfl dX2_isTold_9 ?_
      refine lv_icmp_ge (tgt := 32) hx hb dX2_isTold_10 (by decide) (fun c54537 => ?_) (fun c54537 => ?_)
      · have c54537 := i_le (a := 8) (b := v54529.toInt) c54537 (by decide) rfl
        refine lv_iconst (v := 0) hx hb dX2_isTold_32 (by decide) ?_
        have w54538 : 0 ≤ (0 : Int32).toInt := by first | omega | assumption | rfl | (intros; rfl)
        have w54539 : (0 : Int32).toInt ≤ 1 := by first | omega | assumption | rfl | (intros; rfl)
        exact W.zret (v := 0) hx hb hr (by decide) (fun t ht hW => ⟨⟨0, (), rfl, ⟨w54538, w54539⟩, cE.of ht hP hD [0, 1, 2] (by decide) rfl⟩, hS.F ht⟩) hS.2.2 dX2_isTold_33
      · have c54537 := i_nle (a := 8) (b := v54529.toInt) c54537 (by decide) rfl
        refine lv_aload_n hx hb dX2_isTold_13 rfl (lv_at hl 2 rfl) ?_
        refine lv_iload_n hx hb dX2_isTold_14 rfl (lv_at hl 0 rfl) ?_
        refine va_lald hx hb hK hP 2 2 rfl rfl (vp_i rfl (by omega) (by omega)) dX2_isTold_15 ?_
        refine lv_topl (fun j54540 ej54540 => ?_)
        refine lv_aload_n hx hb dX2_isTold_16 rfl (lv_at hl 1 rfl) ?_
        refine va_get (D := (dC, dI)) (ci := 2) (v := .long e_name) (C := RX2) (T := TX2) (N := 11) hx hb hts hi2 hown hK hP 0 rfl rfl 7 (by decide) (hts _ (ow_m (k := 0) rfl)) (fun _ h9 => h9) rfl dX2_isTold_17 ?_
        refine W.lcmp hx hb dX2_isTold_20 ?_
        refine lv_topi (fun z54541 ez54541 => ?_)
        refine lv_if_ne (tgt := 26) hx hb dX2_isTold_21 (by decide) (fun c54542 => ?_) (fun c54542 => ?_)
        · have c54542 := i_ne (a := z54541.toInt) (b := 0) c54542 rfl (by decide)
          obtain ⟨z54543, ez54543⟩ : ∃ y : Int32, y = v54529 + 1 := ⟨_, rfl⟩
          have tz54543 := ti_add (a := v54529.toInt) (b := 1) ez54543 rfl (by decide) (by omega) (by omega)
          refine lv_iinc (v := z54543) (lv' := [(3, .int z54543), (0, .ref hR), (1, .ref (pd 1)), (2, .int x2)]) hx hb dX2_isTold_26 hl (k := 0) rfl (by rw [ez54543]; rfl) (by decide) rfl (fun ls hl => ?_)
          refine lv_goto (tgt := 2) hx hb dX2_isTold_29 (by decide) ?_
          have hl := lv_sub (l' := [(3, .int z54543), (0, .ref hR), (1, .ref (pd 1)), (2, .int x2)]) hl [0, 1, 2, 3] rfl
          apply ih54533 (v54529 := z54543) (H := H) (locs := locs) (ls := ls) <;> first | assumption | omega
        · have c54542 := i_eq (a := z54541.toInt) (b := 0) c54542 rfl (by decide)
          refine lv_iconst (v := 1) hx hb dX2_isTold_24 (by decide) ?_
          have w54544 : 0 ≤ (1 : Int32).toInt := by first | omega | assumption | rfl | (intros; rfl)
          have w54545 : (1 : Int32).toInt ≤ 1 := by first | omega | assumption | rfl | (intros; rfl)
          exact W.zret (v := 1) hx hb hr (by decide) (fun t ht hW => ⟨⟨1, (), rfl, ⟨w54544, w54545⟩, cE.of ht hP hD [0, 1, 2] (by decide) rfl⟩, hS.F ht⟩) hS.2.2 dX2_isTold_25
def wo_k_Re_isTold_kN : List Cond := [.fieldLink RX2 106 "ReplicaChain$Reader" "name" "J"]
def wq_k_Re_isTold_kN : List Cond := .code yX2_isTold cX2_isTold 4 (some .boolean) :: (wo_k_Re_isTold_kN ++ (wsX20 ++ []))
theorem gd_k_Re_isTold_kN : Gd wq_k_Re_isTold_kN := gd_c (gd_a (gd_o (by decide +kernel)) (gd_a gd_u gd_0))
abbrev wc_k_Re_isTold_kN (cyB cyI cyJ cyZ cyO : ClassId) (hR : Nat) (ed : Nat → Nat) (e_length : Int32) (e_at : Int32) (e_kind : Int32) (e_start : Int32) (e_number : Int32) (e_told : Int32) (e_faultKind : Int32) (e_faultPlace : Int32) (e_name : Int64) (hp : Nat) (pd : Nat → Nat) (p_kN : Nat → Int64) (p_mC : Int32) (p_nC : Int32) (p_kC : Int32) (p_units : Int32) (p_copy : Int32) (p_loss : Int32) (p_draw : Int32) (x2 : Int32) (hf : Nat) : va_W := [(hR, .inr (2, [.ref (ed 0), .int e_length, .int e_at, .ref hp, .int e_kind, .int e_start, .int e_number, .long e_name, .int e_told, .int e_faultKind, .int e_faultPlace])), (hp, .inr (1, [.ref (pd 0), .ref (pd 1), .ref (pd 2), .ref hf, .int p_mC, .int p_nC, .int p_kC, .int p_units, .int p_copy, .int p_loss, .int p_draw])), (pd 2, .inl (cyJ, 4, .inr (.inl p_kN)))]
set_option maxHeartbeats 4000000 in
set_option maxRecDepth 100000 in
theorem k_Re_isTold_kN (l : Launch) (dC : Nat → ClassId) (dI : Nat → Nat → Nat) (cyB cyI cyJ cyZ cyO : ClassId) (hR : Nat) (ed : Nat → Nat) (e_length : Int32) (e_at : Int32) (e_kind : Int32) (e_start : Int32) (e_number : Int32) (e_told : Int32) (e_faultKind : Int32) (e_faultPlace : Int32) (e_name : Int64) (hp : Nat) (pd : Nat → Nat) (p_kN : Nat → Int64) (p_mC : Int32) (p_nC : Int32) (p_kC : Int32) (p_units : Int32) (p_copy : Int32) (p_loss : Int32) (p_draw : Int32) (x2 : Int32) (hf : Nat) (sz : Nat) (l_e_length : 0 ≤ e_length.toInt) (u_e_length : e_length.toInt ≤ 1600) (l_e_at : 0 ≤ e_at.toInt) (u_e_at : e_at.toInt ≤ 1600) (l_e_kind : 0 ≤ e_kind.toInt) (u_e_kind : e_kind.toInt ≤ 5) (l_e_start : 0 ≤ e_start.toInt) (u_e_start : e_start.toInt ≤ 1600) (l_p_mC : 0 ≤ p_mC.toInt) (u_p_mC : p_mC.toInt ≤ 6) (l_p_nC : 0 ≤ p_nC.toInt) (u_p_nC : p_nC.toInt ≤ 8) (l_p_kC : 0 ≤ p_kC.toInt) (u_p_kC : p_kC.toInt ≤ 4) : Met l yX2_isTold wq_k_Re_isTold_kN ({ frames := 0, cells := 0, slots := 0, locals := 0 }) (va_Pc [.ref hR, .ref (pd 2), .int x2] (cB (dC, dI) (kT cyB cyI cyJ cyZ cyO) (wc_k_Re_isTold_kN cyB cyI cyJ cyZ cyO hR ed e_length e_at e_kind e_start e_number e_told e_faultKind e_faultPlace e_name hp pd p_kN p_mC p_nC p_kC p_units p_copy p_loss p_draw x2 hf) sz)) (va_Qi (fun (r : Int32) (u : Unit) => (0 ≤ r.toInt) ∧ (r.toInt ≤ 1)) (fun (u : Unit) t => cE (dC, dI) (va_A (wc_k_Re_isTold_kN cyB cyI cyJ cyZ cyO hR ed e_length e_at e_kind e_start e_number e_told e_faultKind e_faultPlace e_name hp pd p_kN p_mC p_nC p_kC p_units p_copy p_loss p_draw x2 hf) sz) ([(hR, .inr (2, [.ref (ed 0), .int e_length, .int e_at, .ref hp, .int e_kind, .int e_start, .int e_number, .long e_name, .int e_told, .int e_faultKind, .int e_faultPlace])), (hp, .inr (1, [.ref (pd 0), .ref (pd 1), .ref (pd 2), .ref hf, .int p_mC, .int p_nC, .int p_kC, .int p_units, .int p_copy, .int p_loss, .int p_draw])), (pd 2, .inl (cyJ, 4, .inr (.inl p_kN)))]) t.heap) (va_A (wc_k_Re_isTold_kN cyB cyI cyJ cyZ cyO hR ed e_length e_at e_kind e_start e_number e_told e_faultKind e_faultPlace e_name hp pd p_kN p_mC p_nC p_kC p_units p_copy p_loss p_draw x2 hf) sz)) 0 0 (va_A (wc_k_Re_isTold_kN cyB cyI cyJ cyZ cyO hR ed e_length e_at e_kind e_start e_number e_told e_faultKind e_faultPlace e_name hp pd p_kN p_mC p_nC p_kC p_units p_copy p_loss p_draw x2 hf) sz) := by
  refine Met.ofW (cc := cX2_isTold) (maxL := 4) (ret := (some .boolean)) (by decide) rfl ?_
  intro p e s m args below meth c s₁ B hml hv
  obtain ⟨rfl, hsz, hP, hKN, hD0⟩ := hv
  have hx := B.exec
  have hb := B.bytes
  have hr := B.returns
  have hts := atoms_spec (ws := wq_k_Re_isTold_kN) B.pre
  have hown : s.vm.findClass RX2 = some m.cls := findClass_of_methodNamed B.named
  have hlocks := B.notSynchronized
  have hK := hKN.1
  have hfix : CallFix p m c cX2_isTold 4 s [.ref hR, .ref (pd 2), .int x2].toArray wq_k_Re_isTold_kN RX2 := ⟨hx, hb, hml, hown, hts⟩
  have hi2 : ∀ w ∈ wsX20, w ∈ wq_k_Re_isTold_kN := (sb_c sb_l)
  subst hsz
  have hD := hD0.self (sz := s.heap.size)
  generalize hAe : va_A (wc_k_Re_isTold_kN cyB cyI cyJ cyZ cyO hR ed e_length e_at e_kind e_start e_number e_told e_faultKind e_faultPlace e_name hp pd p_kN p_mC p_nC p_kC p_units p_copy p_loss p_draw x2 hf) s.heap.size = A at hD ⊢
  have hA : ∀ q : Nat, s.heap.size ≤ q → A q := fun q h => by rw [← hAe]; exact Or.inr h
  have hS : va_S A s.heap s.heap [] := va_S.rf
  have hl := lv_entry ([.ref hR, .ref (pd 2), .int x2]) (n := 4) (Nat.le_of_ble_eq_true rfl)
  rw [lg_entry_eq]
  generalize (lg_sl ([.ref hR, .ref (pd 2), .int x2]) ++ List.replicate (4 - (lg_sl ([.ref hR, .ref (pd 2), .int x2])).length) Slot.unset).toArray = ls at hl ⊢
  have hl : lv_has ls 4 [(0, .ref hR), (1, .ref (pd 2)), (2, .int x2)] := hl
  have ck0 : (0 : Int32).toInt = 0 := by decide
  have ck1 : (1 : Int32).toInt = 1 := by decide
  refine lv_iconst (v := 0) hx hb dX2_isTold_0 (by decide) ?_
  refine lv_istore_n (lv' := [(3, .int 0), (0, .ref hR), (1, .ref (pd 2)), (2, .int x2)]) hx hb dX2_isTold_1 rfl hl (by decide) rfl (fun ls hl => ?_)
  refine w_gen (fun H locs ls hP hS hl => ?_) hP hS hl
  obtain ⟨v54648, hl2, hP2, hD2, b54649, b54650⟩ : ∃ (v54648 : Int32), lv_has ls 4 [(3, .int v54648), (0, .ref hR), (1, .ref (pd 2)), (2, .int x2)] ∧ va_P (dC, dI) vwCl [(hR, .inr (2, [.ref (ed 0), .int e_length, .int e_at, .ref hp, .int e_kind, .int e_start, .int e_number, .long e_name, .int e_told, .int e_faultKind, .int e_faultPlace])), (hp, .inr (1, [.ref (pd 0), .ref (pd 1), .ref (pd 2), .ref hf, .int p_mC, .int p_nC, .int p_kC, .int p_units, .int p_copy, .int p_loss, .int p_draw])), (pd 2, .inl (cyJ, 4, .inr (.inl p_kN)))] H ∧ va_D A [(hR, .inr (2, [.ref (ed 0), .int e_length, .int e_at, .ref hp, .int e_kind, .int e_start, .int e_number, .long e_name, .int e_told, .int e_faultKind, .int e_faultPlace])), (hp, .inr (1, [.ref (pd 0), .ref (pd 1), .ref (pd 2), .ref hf, .int p_mC, .int p_nC, .int p_kC, .int p_units, .int p_copy, .int p_loss, .int p_draw])), (pd 2, .inl (cyJ, 4, .inr (.inl p_kN)))] ∧ (0 ≤ v54648.toInt) ∧ (v54648.toInt ≤ 4) := ⟨(0 : Int32), hl, hP, hD, by first | assumption | omega, by first | assumption | omega⟩
  clear hP hl
  have hP := hP2
  have hD := hD2
  have hl := hl2
  clear hP2 hD2 hl2
  obtain ⟨n54651, hn54651⟩ : ∃ n : Nat, 4 - v54648.toInt < (n : Int) := ⟨(4 - v54648.toInt).toNat + 1, by omega⟩
  induction n54651 generalizing v54648 H locs ls with
  | zero => exfalso; omega
  | succ n54651 ih54652 =>
    refine lv_iload_n hx hb dX2_isTold_2 rfl (lv_at hl 0 rfl) ?_
    refine lv_iload_n hx hb dX2_isTold_3 rfl (lv_at hl 3 rfl) ?_
    refine lv_icmp_ge (tgt := 32) hx hb dX2_isTold_4 (by decide) (fun c54653 => ?_) (fun c54653 => ?_)
    · have c54653 := i_le (a := x2.toInt) (b := v54648.toInt) c54653 rfl rfl
      refine lv_iconst (v := 0) hx hb dX2_isTold_32 (by decide) ?_
      have w54654 : 0 ≤ (0 : Int32).toInt := by first | omega | assumption | rfl | (intros; rfl)
      have w54655 : (0 : Int32).toInt ≤ 1 := by first | omega | assumption | rfl | (intros; rfl)
      exact W.zret (v := 0) hx hb hr (by decide) (fun t ht hW => ⟨⟨0, (), rfl, ⟨w54654, w54655⟩, cE.of ht hP hD [0, 1, 2] (by decide) rfl⟩, hS.F ht⟩) hS.2.2 dX2_isTold_33
    · have c54653 := i_nle (a := x2.toInt) (b := v54648.toInt) c54653 rfl rfl
      refine lv_iload_n hx hb dX2_isTold_7 rfl (lv_at hl 0 rfl) ?_
      refine lv_aload_n hx hb dX2_isTold_8 rfl (lv_at hl 2 rfl) ?_
      refine va_alen (v := 4) hx hb hK hP 2 2 rfl rfl rfl dX2_isTold_9 ?_
      refine lv_icmp_ge (tgt := 32) hx hb dX2_isTold_10 (by decide) (fun c54656 => ?_) (fun c54656 => ?_)
      · have c54656 := i_le (a := 4) (b := v54648.toInt) c54656 (by decide) rfl
        refine lv_iconst (v := 0) hx hb dX2_isTold_32 (by decide) ?_
        have w54657 : 0 ≤ (0 : Int32).toInt := by first | omega | assumption | rfl | (intros; rfl)
        have w54658 : (0 : Int32).toInt ≤ 1 := by first | omega | assumption | rfl | (intros; rfl)
        exact W.zret (v := 0) hx hb hr (by decide) (fun t ht hW => ⟨⟨0, (), rfl, ⟨w54657, w54658⟩, cE.of ht hP hD [0, 1, 2] (by decide) rfl⟩, hS.F ht⟩) hS.2.2 dX2_isTold_33
      · have c54656 := i_nle (a := 4) (b := v54648.toInt) c54656 (by decide) rfl
        refine lv_aload_n hx hb dX2_isTold_13 rfl (lv_at hl 2 rfl) ?_
        refine lv_iload_n hx hb dX2_isTold_14 rfl (lv_at hl 0 rfl) ?_
        refine va_lald hx hb hK hP 2 2 rfl rfl (vp_i rfl (by omega) (by omega)) dX2_isTold_15 ?_
        refine lv_topl (fun j54659 ej54659 => ?_)
        refine lv_aload_n hx hb dX2_isTold_16 rfl (lv_at hl 1 rfl) ?_
        refine va_get (D := (dC, dI)) (ci := 2) (v := .long e_name) (C := RX2) (T := TX2) (N := 11) hx hb hts hi2 hown hK hP 0 rfl rfl 7 (by decide) (hts _ (ow_m (k := 0) rfl)) (fun _ h9 => h9) rfl dX2_isTold_17 ?_
        refine W.lcmp hx hb dX2_isTold_20 ?_
        refine lv_topi (fun z54660 ez54660 => ?_)
        refine lv_if_ne (tgt := 26) hx hb dX2_isTold_21 (by decide) (fun c54661 => ?_) (fun c54661 => ?_)
        · have c54661 := i_ne (a := z54660.toInt) (b := 0) c54661 rfl (by decide)
          obtain ⟨z54662, ez54662⟩ : ∃ y : Int32, y = v54648 + 1 := ⟨_, rfl⟩
          have tz54662 := ti_add (a := v54648.toInt) (b := 1) ez54662 rfl (by decide) (by omega) (by omega)
          refine lv_iinc (v := z54662) (lv' := [(3, .int z54662), (0, .ref hR), (1, .ref (pd 2)), (2, .int x2)]) hx hb dX2_isTold_26 hl (k := 0) rfl (by rw [ez54662]; rfl) (by decide) rfl (fun ls hl => ?_)
          refine lv_goto (tgt := 2) hx hb dX2_isTold_29 (by decide) ?_
          have hl := lv_sub (l' := [(3, .int z54662), (0, .ref hR), (1, .ref (pd 2)), (2, .int x2)]) hl [0, 1, 2, 3] rfl
          apply ih54652 (v54648 := z54662) (H := H) (locs := locs) (ls := ls) <;> first | assumption | omega
        · have c54661 := i_eq (a := z54660.toInt) (b := 0) c54661 rfl (by decide)
          refine lv_iconst (v := 1) hx hb dX2_isTold_24 (by decide) ?_
          have w54663 : 0 ≤ (1 : Int32).toInt := by first | omega | assumption | rfl | (intros; rfl)
          have w54664 : (1 : Int32).toInt ≤ 1 := by first | omega | assumption | rfl | (intros; rfl)
          exact W.zret (v := 1) hx hb hr (by decide) (fun t ht hW => ⟨⟨1, (), rfl, ⟨w54663, w54664⟩, cE.of ht hP hD [0, 1, 2] (by decide) rfl⟩, hS.F ht⟩) hS.2.2 dX2_isTold_25
def wo_k_Re_readName : List Cond := [.fieldLink RX2 53 "ReplicaChain$Reader" "kind" "I", .fieldLink RX2 19 "ReplicaChain$Reader" "plan" "LReplicaChain$Plan;", .fieldLink RX2 99 "ReplicaChain$Plan" "nodeNames" "[J", .fieldLink RX2 86 "ReplicaChain$Plan" "nodeCount" "I", .methodLink RX2 102 yX2_isTold, .instanceMethod yX2_isTold, .selects RX2 yX2_isTold yX2_isTold, .initialized RX2, .fieldLink RX2 106 "ReplicaChain$Reader" "name" "J", .methodLink RX2 46 yX2_advance, .instanceMethod yX2_advance, .selects RX2 yX2_advance yX2_advance, .fieldLink RX2 110 "ReplicaChain$Plan" "members" "[I", .fieldLink RX2 89 "ReplicaChain$Plan" "memberCount" "I", .methodLink RX2 69 yX2_refuse, .instanceMethod yX2_refuse, .selects RX2 yX2_refuse yX2_refuse, .fieldLink RX2 95 "ReplicaChain$Plan" "keyNames" "[J", .fieldLink RX2 92 "ReplicaChain$Plan" "keyCount" "I"]
def wq_k_Re_readName : List Cond := .code yX2_readName cX2_readName 3 none :: (wo_k_Re_readName ++ (wq_k_Re_isTold_nN ++ (wq_k_Re_advance ++ (wq_k_Re_refuse ++ (wq_k_Re_isTold_kN ++ (wsX10 ++ (wsX20 ++ [])))))))
theorem gd_k_Re_readName : Gd wq_k_Re_readName := gd_c (gd_a (gd_o (by decide +kernel)) (gd_a gd_k_Re_isTold_nN (gd_a gd_k_Re_advance (gd_a gd_k_Re_refuse (gd_a gd_k_Re_isTold_kN (gd_a gd_u (gd_a gd_u gd_0)))))))
abbrev wc_k_Re_readName (cyB cyI cyJ cyZ cyO : ClassId) (hR : Nat) (ed : Nat → Nat) (e_text : Nat → Int32) (e_length : Int32) (e_at : Int32) (e_kind : Int32) (e_start : Int32) (e_number : Int32) (e_told : Int32) (e_faultKind : Int32) (e_faultPlace : Int32) (e_name : Int64) (hp : Nat) (pd : Nat → Nat) (p_members : Nat → Int32) (p_nN : Nat → Int64) (p_kN : Nat → Int64) (p_mC : Int32) (p_nC : Int32) (p_kC : Int32) (p_units : Int32) (p_copy : Int32) (p_loss : Int32) (p_draw : Int32) (x1 : Int32) (hf : Nat) : va_W := [(hR, .inr (2, [.ref (ed 0), .int e_length, .int e_at, .ref hp, .int e_kind, .int e_start, .int e_number, .long e_name, .int e_told, .int e_faultKind, .int e_faultPlace])), (ed 0, .inl (cyB, 1600, .inl e_text)), (hp, .inr (1, [.ref (pd 0), .ref (pd 1), .ref (pd 2), .ref hf, .int p_mC, .int p_nC, .int p_kC, .int p_units, .int p_copy, .int p_loss, .int p_draw])), (pd 0, .inl (cyI, 6, .inl p_members)), (pd 1, .inl (cyJ, 8, .inr (.inl p_nN))), (pd 2, .inl (cyJ, 4, .inr (.inl p_kN)))]
set_option maxHeartbeats 4000000 in
set_option maxRecDepth 100000 in
theorem k_Re_readName (l : Launch) (dC : Nat → ClassId) (dI : Nat → Nat → Nat) (cyB cyI cyJ cyZ cyO : ClassId) (adK adV : Nat → Nat) (hR : Nat) (ed : Nat → Nat) (e_text : Nat → Int32) (e_length : Int32) (e_at : Int32) (e_kind : Int32) (e_start : Int32) (e_number : Int32) (e_told : Int32) (e_faultKind : Int32) (e_faultPlace : Int32) (e_name : Int64) (hp : Nat) (pd : Nat → Nat) (p_members : Nat → Int32) (p_nN : Nat → Int64) (p_kN : Nat → Int64) (p_mC : Int32) (p_nC : Int32) (p_kC : Int32) (p_units : Int32) (p_copy : Int32) (p_loss : Int32) (p_draw : Int32) (x1 : Int32) (hf : Nat) (sz : Nat) (l_e_length : 0 ≤ e_length.toInt) (u_e_length : e_length.toInt ≤ 1600) (l_e_at : 0 ≤ e_at.toInt) (u_e_at : e_at.toInt ≤ 1600) (l_e_kind : 0 ≤ e_kind.toInt) (u_e_kind : e_kind.toInt ≤ 5) (l_e_start : 0 ≤ e_start.toInt) (u_e_start : e_start.toInt ≤ 1600) (l_p_mC : 0 ≤ p_mC.toInt) (u_p_mC : p_mC.toInt ≤ 6) (l_p_nC : 0 ≤ p_nC.toInt) (u_p_nC : p_nC.toInt ≤ 8) (l_p_kC : 0 ≤ p_kC.toInt) (u_p_kC : p_kC.toInt ≤ 4) (i0_p_members : In2 p_members 0 6 (0) (7)) (v0_p_ : PI p_mC p_nC p_members) (l_x1 : 0 ≤ x1.toInt) (u_x1 : x1.toInt ≤ 2) (h0 : x1.toInt = 0 → p_nC.toInt ≤ 7 ∧ p_mC.toInt ≤ 5) (h1 : x1.toInt = 1 → p_nC.toInt ≤ 7) (h2 : x1.toInt = 2 → p_kC.toInt ≤ 3) : Met l yX2_readName wq_k_Re_readName ({ frames := 7, cells := 0, slots := 0, locals := 149 }) (va_Pc [.ref hR, .int x1] (cBZ (dC, dI) (kT cyB cyI cyJ cyZ cyO) adK adV (wc_k_Re_readName cyB cyI cyJ cyZ cyO hR ed e_text e_length e_at e_kind e_start e_number e_told e_faultKind e_faultPlace e_name hp pd p_members p_nN p_kN p_mC p_nC p_kC p_units p_copy p_loss p_draw x1 hf) sz)) (va_Qv (fun (u : ST4) => (0 ≤ (u.2.1 0).toInt) ∧ ((u.2.1 0).toInt ≤ 1600) ∧ (0 ≤ (u.2.1 1).toInt) ∧ ((u.2.1 1).toInt ≤ 5) ∧ (0 ≤ (u.2.1 2).toInt) ∧ ((u.2.1 2).toInt ≤ 1600) ∧ (In2 (u.1 0) 0 6 (0) (7)) ∧ (0 ≤ (u.2.1 6).toInt) ∧ ((u.2.1 6).toInt ≤ 6) ∧ (0 ≤ (u.2.1 7).toInt) ∧ ((u.2.1 7).toInt ≤ 8) ∧ (0 ≤ (u.2.1 8).toInt) ∧ ((u.2.1 8).toInt ≤ 4) ∧ (PI (u.2.1 6) (u.2.1 7) (u.1 0)) ∧ ((u.2.1 4).toInt = 0 → e_faultKind.toInt = 0)) (fun (u : ST4) t => cE (dC, dI) (va_A (wc_k_Re_readName cyB cyI cyJ cyZ cyO hR ed e_text e_length e_at e_kind e_start e_number e_told e_faultKind e_faultPlace e_name hp pd p_members p_nN p_kN p_mC p_nC p_kC p_units p_copy p_loss p_draw x1 hf) sz) ([(hR, .inr (2, [.ref (ed 0), .int e_length, .int (u.2.1 0), .ref hp, .int (u.2.1 1), .int (u.2.1 2), .int (u.2.1 3), .long (u.2.2.1 0), .int e_told, .int (u.2.1 4), .int (u.2.1 5)])), (ed 0, .inl (cyB, 1600, .inl e_text)), (hp, .inr (1, [.ref (pd 0), .ref (pd 1), .ref (pd 2), .ref hf, .int (u.2.1 6), .int (u.2.1 7), .int (u.2.1 8), .int p_units, .int p_copy, .int p_loss, .int p_draw])), (pd 0, .inl (cyI, 6, .inl (u.1 0))), (pd 1, .inl (cyJ, 8, .inr (.inl (u.2.2.2 0)))), (pd 2, .inl (cyJ, 4, .inr (.inl (u.2.2.2 1))))]) t.heap) (va_A (wc_k_Re_readName cyB cyI cyJ cyZ cyO hR ed e_text e_length e_at e_kind e_start e_number e_told e_faultKind e_faultPlace e_name hp pd p_members p_nN p_kN p_mC p_nC p_kC p_units p_copy p_loss p_draw x1 hf) sz)) 0 0 (va_A (wc_k_Re_readName cyB cyI cyJ cyZ cyO hR ed e_text e_length e_at e_kind e_start e_number e_told e_faultKind e_faultPlace e_name hp pd p_members p_nN p_kN p_mC p_nC p_kC p_units p_copy p_loss p_draw x1 hf) sz) := by
  refine Met.ofW (cc := cX2_readName) (maxL := 3) (ret := none) (by decide) rfl ?_
  intro p e s m args below meth c s₁ B hml hv
  obtain ⟨rfl, ⟨hsz, hP, hKN, hD0⟩, hZ⟩ := hv
  have hx := B.exec
  have hb := B.bytes
  have hr := B.returns
  have hts := atoms_spec (ws := wq_k_Re_readName) B.pre
  have hown : s.vm.findClass RX2 = some m.cls := findClass_of_methodNamed B.named
  have hlocks := B.notSynchronized
  have hK := hKN.1
  have hfix : CallFix p m c cX2_readName 3 s [.ref hR, .int x1].toArray wq_k_Re_readName RX2 := ⟨hx, hb, hml, hown, hts⟩
  have hi1 : ∀ w ∈ wsX10, w ∈ wq_k_Re_readName := (sb_c (sb_r (sb_r (sb_r (sb_r sb_l)))))
  have hi2 : ∀ w ∈ wsX20, w ∈ wq_k_Re_readName := (sb_c (sb_r (sb_r (sb_r (sb_r (sb_r sb_l))))))
  subst hsz
  have hD := hD0.self (sz := s.heap.size)
  generalize hAe : va_A (wc_k_Re_readName cyB cyI cyJ cyZ cyO hR ed e_text e_length e_at e_kind e_start e_number e_told e_faultKind e_faultPlace e_name hp pd p_members p_nN p_kN p_mC p_nC p_kC p_units p_copy p_loss p_draw x1 hf) s.heap.size = A at hD hZ ⊢
  have hA : ∀ q : Nat, s.heap.size ≤ q → A q := fun q h => by rw [← hAe]; exact Or.inr h
  have hS : va_S A s.heap s.heap [] := va_S.rf
  have hl := lv_entry ([.ref hR, .int x1]) (n := 3) (Nat.le_of_ble_eq_true rfl)
  rw [lg_entry_eq]
  generalize (lg_sl ([.ref hR, .int x1]) ++ List.replicate (3 - (lg_sl ([.ref hR, .int x1])).length) Slot.unset).toArray = ls at hl ⊢
  have hl : lv_has ls 3 [(0, .ref hR), (1, .int x1)] := hl
  have ck2 : (2 : Int32).toInt = 2 := by decide
  have ck3 : (3 : Int32).toInt = 3 := by decide
  refine lv_aload_n hx hb dX2_readName_0 rfl (lv_at hl 0 rfl) ?_
  refine va_get (D := (dC, dI)) (ci := 2) (v := .int e_kind) (C := RX2) (T := TX2) (N := 11) hx hb hts hi2 hown hK hP 0 rfl rfl 4 (by decide) (hts _ (ow_m (k := 0) rfl)) (fun _ h9 => h9) rfl dX2_readName_1 ?_
  refine lv_iconst (v := 2) hx hb dX2_readName_4 (by decide) ?_
  refine lv_icmp_eq (tgt := 14) hx hb dX2_readName_5 (by decide) (fun c54787 => ?_) (fun c54787 => ?_)
  · have c54787 := i_eq (a := e_kind.toInt) (b := 2) c54787 rfl (by decide)
    refine lv_iload_n hx hb dX2_readName_14 rfl (lv_at hl 1 rfl) ?_
    refine lv_iconst (v := 2) hx hb dX2_readName_15 (by decide) ?_
    refine lv_icmp_ne (tgt := 23) hx hb dX2_readName_16 (by decide) (fun c54788 => ?_) (fun c54788 => ?_)
    · have c54788 := i_ne (a := x1.toInt) (b := 2) c54788 rfl (by decide)
      refine lv_iconst (v := 0) hx hb dX2_readName_23 (by decide) ?_
      refine lv_istore_n (lv' := [(2, .int 0), (0, .ref hR), (1, .int x1)]) hx hb dX2_readName_24 rfl hl (by decide) rfl (fun ls hl => ?_)
      refine lv_aload_n hx hb dX2_readName_25 rfl (lv_at hl 1 rfl) ?_
      refine lv_iload_n hx hb dX2_readName_26 rfl (lv_at hl 0 rfl) ?_
      refine lv_if_eq (tgt := 40) hx hb dX2_readName_27 (by decide) (fun _ => ?_) (fun c54789 => absurd (by decide) c54789)
      refine lv_aload_n hx hb dX2_readName_40 rfl (lv_at hl 1 rfl) ?_
      refine va_get (D := (dC, dI)) (ci := 2) (v := .ref hp) (C := RX2) (T := TX2) (N := 11) hx hb hts hi2 hown hK hP 0 rfl rfl 3 (by decide) (hts _ (ow_m (k := 1) rfl)) (fun _ h9 => h9) rfl dX2_readName_41 ?_
      refine va_get (D := (dC, dI)) (ci := 1) (v := .ref (pd 1)) (C := RX1) (T := TX1) (N := 11) hx hb hts hi1 hown hK hP 2 rfl rfl 1 (by decide) (hts _ (ow_m (k := 2) rfl)) (fun _ h9 => h9) rfl dX2_readName_44 ?_
      refine lv_iload_n hx hb dX2_readName_47 rfl (lv_at hl 0 rfl) ?_
      refine lv_if_eq (tgt := 61) hx hb dX2_readName_48 (by decide) (fun _ => ?_) (fun c54790 => absurd (by decide) c54790)
      refine lv_aload_n hx hb dX2_readName_61 rfl (lv_at hl 1 rfl) ?_
      refine va_get (D := (dC, dI)) (ci := 2) (v := .ref hp) (C := RX2) (T := TX2) (N := 11) hx hb hts hi2 hown hK hP 0 rfl rfl 3 (by decide) (hts _ (ow_m (k := 1) rfl)) (fun _ h9 => h9) rfl dX2_readName_62 ?_
      refine va_get (D := (dC, dI)) (ci := 1) (v := .int p_nC) (C := RX1) (T := TX1) (N := 11) hx hb hts hi1 hown hK hP 2 rfl rfl 5 (by decide) (hts _ (ow_m (k := 3) rfl)) (fun _ h9 => h9) rfl dX2_readName_65 ?_
      refine gf_i (wr := [(ed 0, .inl (cyB, 1600, .inl e_text)), (pd 0, .inl (cyI, 6, .inl p_members)), (pd 2, .inl (cyJ, 4, .inr (.inl p_kN)))]) (va_runV (As := [.ref (pd 1), .int p_nC]) (rest := []) hfix (k_Re_isTold_nN l dC dI cyB cyI cyJ cyZ cyO hR ed e_length e_at e_kind e_start e_number e_told e_faultKind e_faultPlace e_name hp pd p_nN p_mC p_nC p_kC p_units p_copy p_loss p_draw p_nC hf _ (by first | omega | assumption) (by first | omega | assumption) (by first | omega | assumption) (by first | omega | assumption) (by first | omega | assumption) (by first | omega | assumption) (by first | omega | assumption) (by first | omega | assumption) (by first | omega | assumption) (by first | omega | assumption) (by first | omega | assumption) (by first | omega | assumption) (by first | omega | assumption) (by first | omega | assumption)) (cwV 2 hts (gi_V (ow_m (k := 4) rfl) (ow_m (k := 5) rfl) (ow_m (k := 6) rfl) (ow_m (k := 7) rfl) (sb_c sb_l) gd_k_Re_isTold_nN) rfl rfl rfl (by decide +kernel) ⟨Nat.le_of_ble_eq_true rfl, Nat.le_of_ble_eq_true rfl⟩) (g_preV hKN hP hD [0, 2, 4] rfl (by decide) 0 2 rfl rfl) rfl rfl hl.1 rfl (lv_room (Nat.le_of_ble_eq_true rfl)) dX2_readName_68 ⟨Nat.le_of_ble_eq_true rfl, Nat.le_of_ble_eq_true rfl⟩) hP hD hS hA [0, 2, 4] [1, 3, 5] rfl rfl (by decide) (by decide) (fun r54791 u54792 H locs qu54792 hP hD hS => ?_)
      obtain ⟨b54793, b54794⟩ := qu54792
      have hP : va_P (dC, dI) vwCl [(ed 0, .inl (cyB, 1600, .inl e_text)), (pd 0, .inl (cyI, 6, .inl p_members)), (pd 2, .inl (cyJ, 4, .inr (.inl p_kN))), (hR, .inr (2, [.ref (ed 0), .int e_length, .int e_at, .ref hp, .int e_kind, .int e_start, .int e_number, .long e_name, .int e_told, .int e_faultKind, .int e_faultPlace])), (hp, .inr (1, [.ref (pd 0), .ref (pd 1), .ref (pd 2), .ref hf, .int p_mC, .int p_nC, .int p_kC, .int p_units, .int p_copy, .int p_loss, .int p_draw])), (pd 1, .inl (cyJ, 8, .inr (.inl p_nN)))] H := hP
      have hD : va_D A [(ed 0, .inl (cyB, 1600, .inl e_text)), (pd 0, .inl (cyI, 6, .inl p_members)), (pd 2, .inl (cyJ, 4, .inr (.inl p_kN))), (hR, .inr (2, [.ref (ed 0), .int e_length, .int e_at, .ref hp, .int e_kind, .int e_start, .int e_number, .long e_name, .int e_told, .int e_faultKind, .int e_faultPlace])), (hp, .inr (1, [.ref (pd 0), .ref (pd 1), .ref (pd 2), .ref hf, .int p_mC, .int p_nC, .int p_kC, .int p_units, .int p_copy, .int p_loss, .int p_draw])), (pd 1, .inl (cyJ, 8, .inr (.inl p_nN)))] := hD
      refine lv_if_eq (tgt := 80) hx hb dX2_readName_71 (by decide) (fun c54795 => ?_) (fun c54795 => ?_)
      · have c54795 := i_eq (a := r54791.toInt) (b := 0) c54795 rfl (by decide)
        refine lv_iload_n hx hb dX2_readName_80 rfl (lv_at hl 0 rfl) ?_
        refine lv_if_eq (tgt := 119) hx hb dX2_readName_81 (by decide) (fun _ => ?_) (fun c54796 => absurd (by decide) c54796)
        refine lv_iload_n hx hb dX2_readName_119 rfl (lv_at hl 2 rfl) ?_
        refine lv_if_ne (tgt := 158) hx hb dX2_readName_120 (by decide) (fun c54797 => ?_) (fun c54797 => ?_)
        · have c54797 := i_ne (a := x1.toInt) (b := 0) c54797 rfl (by decide)
          refine lv_aload_n hx hb dX2_readName_158 rfl (lv_at hl 1 rfl) ?_
          refine va_get (D := (dC, dI)) (ci := 2) (v := .ref hp) (C := RX2) (T := TX2) (N := 11) hx hb hts hi2 hown hK hP 3 rfl rfl 3 (by decide) (hts _ (ow_m (k := 1) rfl)) (fun _ h9 => h9) rfl dX2_readName_159 ?_
          refine va_get (D := (dC, dI)) (ci := 1) (v := .ref (pd 1)) (C := RX1) (T := TX1) (N := 11) hx hb hts hi1 hown hK hP 4 rfl rfl 1 (by decide) (hts _ (ow_m (k := 2) rfl)) (fun _ h9 => h9) rfl dX2_readName_162 ?_
          refine lv_aload_n hx hb dX2_readName_165 rfl (lv_at hl 1 rfl) ?_
          refine va_get (D := (dC, dI)) (ci := 2) (v := .ref hp) (C := RX2) (T := TX2) (N := 11) hx hb hts hi2 hown hK hP 3 rfl rfl 3 (by decide) (hts _ (ow_m (k := 1) rfl)) (fun _ h9 => h9) rfl dX2_readName_166 ?_
          refine va_get (D := (dC, dI)) (ci := 1) (v := .int p_nC) (C := RX1) (T := TX1) (N := 11) hx hb hts hi1 hown hK hP 4 rfl rfl 5 (by decide) (hts _ (ow_m (k := 3) rfl)) (fun _ h9 => h9) rfl dX2_readName_169 ?_
          refine lv_aload_n hx hb dX2_readName_172 rfl (lv_at hl 1 rfl) ?_
          refine va_get (D := (dC, dI)) (ci := 2) (v := .long e_name) (C := RX2) (T := TX2) (N := 11) hx hb hts hi2 hown hK hP 3 rfl rfl 7 (by decide) (hts _ (ow_m (k := 8) rfl)) (fun _ h9 => h9) rfl dX2_readName_173 ?_
          refine va_last hx hb hK hP hD hS 5 2 rfl rfl (vp_i rfl (by omega) (by omega)) dX2_readName_176 (fun H locs hP hD hS => ?_)
          have hP : va_P (dC, dI) vwCl [(ed 0, .inl (cyB, 1600, .inl e_text)), (pd 0, .inl (cyI, 6, .inl p_members)), (pd 2, .inl (cyJ, 4, .inr (.inl p_kN))), (hR, .inr (2, [.ref (ed 0), .int e_length, .int e_at, .ref hp, .int e_kind, .int e_start, .int e_number, .long e_name, .int e_told, .int e_faultKind, .int e_faultPlace])), (hp, .inr (1, [.ref (pd 0), .ref (pd 1), .ref (pd 2), .ref hf, .int p_mC, .int p_nC, .int p_kC, .int p_units, .int p_copy, .int p_loss, .int p_draw])), (pd 1, .inl (cyJ, 8, .inr (.inl (vp_updL p_nN p_nC.toNatClampNeg e_name))))] H := hP
          have hD : va_D A [(ed 0, .inl (cyB, 1600, .inl e_text)), (pd 0, .inl (cyI, 6, .inl p_members)), (pd 2, .inl (cyJ, 4, .inr (.inl p_kN))), (hR, .inr (2, [.ref (ed 0), .int e_length, .int e_at, .ref hp, .int e_kind, .int e_start, .int e_number, .long e_name, .int e_told, .int e_faultKind, .int e_faultPlace])), (hp, .inr (1, [.ref (pd 0), .ref (pd 1), .ref (pd 2), .ref hf, .int p_mC, .int p_nC, .int p_kC, .int p_units, .int p_copy, .int p_loss, .int p_draw])), (pd 1, .inl (cyJ, 8, .inr (.inl (vp_updL p_nN p_nC.toNatClampNeg e_name))))] := hD
          generalize ef54798 : vp_updL p_nN p_nC.toNatClampNeg e_name = f54798 at hP hD
          refine lv_aload_n hx hb dX2_readName_177 rfl (lv_at hl 1 rfl) ?_
          refine va_get (D := (dC, dI)) (ci := 2) (v := .ref hp) (C := RX2) (T := TX2) (N := 11) hx hb hts hi2 hown hK hP 3 rfl rfl 3 (by decide) (hts _ (ow_m (k := 1) rfl)) (fun _ h9 => h9) rfl dX2_readName_178 ?_
          refine lv_dup hx hb dX2_readName_181 rfl ?_
          refine va_get (D := (dC, dI)) (ci := 1) (v := .int p_nC) (C := RX1) (T := TX1) (N := 11) hx hb hts hi1 hown hK hP 4 rfl rfl 5 (by decide) (hts _ (ow_m (k := 3) rfl)) (fun _ h9 => h9) rfl dX2_readName_182 ?_
          refine lv_iconst (v := 1) hx hb dX2_readName_185 (by decide) ?_
          refine lv_iadd hx hb dX2_readName_186 ?_
          refine lv_topi (fun z54799 ez54799 => ?_)
          have tz54799 := ti_add (a := p_nC.toInt) (b := 1) ez54799 rfl (by decide) (by omega) (by omega)
          refine va_put (D := (dC, dI)) (ci := 1) (v := .int z54799) (ty := .int) (C := RX1) (T := TX1) (N := 11) hx hb hts hi1 tyX1 tyX1_ok nmX1 hown hK hP hD hS 4 rfl rfl 5 (by decide) (hts _ (ow_m (k := 3) rfl)) (fun _ h9 => h9) rfl (by decide +kernel) rfl rfl (Nat.le_of_ble_eq_true rfl) dX2_readName_187 (fun H locs hP hD hS => ?_)
          have hP : va_P (dC, dI) vwCl [(ed 0, .inl (cyB, 1600, .inl e_text)), (pd 0, .inl (cyI, 6, .inl p_members)), (pd 2, .inl (cyJ, 4, .inr (.inl p_kN))), (hR, .inr (2, [.ref (ed 0), .int e_length, .int e_at, .ref hp, .int e_kind, .int e_start, .int e_number, .long e_name, .int e_told, .int e_faultKind, .int e_faultPlace])), (hp, .inr (1, [.ref (pd 0), .ref (pd 1), .ref (pd 2), .ref hf, .int p_mC, .int z54799, .int p_kC, .int p_units, .int p_copy, .int p_loss, .int p_draw])), (pd 1, .inl (cyJ, 8, .inr (.inl f54798)))] H := hP
          have hD : va_D A [(ed 0, .inl (cyB, 1600, .inl e_text)), (pd 0, .inl (cyI, 6, .inl p_members)), (pd 2, .inl (cyJ, 4, .inr (.inl p_kN))), (hR, .inr (2, [.ref (ed 0), .int e_length, .int e_at, .ref hp, .int e_kind, .int e_start, .int e_number, .long e_name, .int e_told, .int e_faultKind, .int e_faultPlace])), (hp, .inr (1, [.ref (pd 0), .ref (pd 1), .ref (pd 2), .ref hf, .int p_mC, .int z54799, .int p_kC, .int p_units, .int p_copy, .int p_loss, .int p_draw])), (pd 1, .inl (cyJ, 8, .inr (.inl f54798)))] := hD
          refine lv_aload_n hx hb dX2_readName_190 rfl (lv_at hl 1 rfl) ?_
          refine gf_v (wr := [(pd 0, .inl (cyI, 6, .inl p_members)), (pd 2, .inl (cyJ, 4, .inr (.inl p_kN))), (hp, .inr (1, [.ref (pd 0), .ref (pd 1), .ref (pd 2), .ref hf, .int p_mC, .int z54799, .int p_kC, .int p_units, .int p_copy, .int p_loss, .int p_draw])), (pd 1, .inl (cyJ, 8, .inr (.inl f54798)))]) (va_runV (As := []) (rest := []) hfix (k_Re_advance l dC dI cyB cyI cyJ cyZ cyO adK adV hR ed e_text e_length e_at e_kind e_start e_number e_told e_faultKind e_faultPlace e_name hp _ (by first | omega | assumption) (by first | omega | assumption) (by first | omega | assumption) (by first | omega | assumption) (by first | omega | assumption) (by first | omega | assumption) (by first | omega | assumption) (by first | omega | assumption)) (cwV 0 hts (gi_V (ow_m (k := 9) rfl) (ow_m (k := 10) rfl) (ow_m (k := 11) rfl) (ow_m (k := 7) rfl) (sb_c (sb_r sb_l)) gd_k_Re_advance) rfl rfl rfl (by decide +kernel) ⟨Nat.le_of_ble_eq_true rfl, Nat.le_of_ble_eq_true rfl⟩) (g_preVZ hZ hS hA hKN hP hD [3, 0] rfl (by decide) 0 2 rfl rfl) rfl rfl hl.1 rfl (lv_room (Nat.le_of_ble_eq_true rfl)) dX2_readName_191 ⟨Nat.le_of_ble_eq_true rfl, Nat.le_of_ble_eq_true rfl⟩) hP hD hS hA [3, 0] [1, 2, 4, 5] rfl rfl (by decide) (by decide) (fun u54801 H locs qu54801 hP hD hS => ?_)
          obtain ⟨b54802, b54803, b54804, b54805, b54806, b54807⟩ := qu54801
          have hP : va_P (dC, dI) vwCl [(pd 0, .inl (cyI, 6, .inl p_members)), (pd 2, .inl (cyJ, 4, .inr (.inl p_kN))), (hp, .inr (1, [.ref (pd 0), .ref (pd 1), .ref (pd 2), .ref hf, .int p_mC, .int z54799, .int p_kC, .int p_units, .int p_copy, .int p_loss, .int p_draw])), (pd 1, .inl (cyJ, 8, .inr (.inl f54798))), (hR, .inr (2, [.ref (ed 0), .int e_length, .int (u54801.2.1 0), .ref hp, .int (u54801.2.1 1), .int (u54801.2.1 2), .int (u54801.2.1 3), .long (u54801.2.2.1 0), .int e_told, .int e_faultKind, .int e_faultPlace])), (ed 0, .inl (cyB, 1600, .inl e_text))] H := hP
          have hD : va_D A [(pd 0, .inl (cyI, 6, .inl p_members)), (pd 2, .inl (cyJ, 4, .inr (.inl p_kN))), (hp, .inr (1, [.ref (pd 0), .ref (pd 1), .ref (pd 2), .ref hf, .int p_mC, .int z54799, .int p_kC, .int p_units, .int p_copy, .int p_loss, .int p_draw])), (pd 1, .inl (cyJ, 8, .inr (.inl f54798))), (hR, .inr (2, [.ref (ed 0), .int e_length, .int (u54801.2.1 0), .ref hp, .int (u54801.2.1 1), .int (u54801.2.1 2), .int (u54801.2.1 3), .long (u54801.2.2.1 0), .int e_told, .int e_faultKind, .int e_faultPlace])), (ed 0, .inl (cyB, 1600, .inl e_text))] := hD
          have hPI9 : PI p_mC z54799 p_members := PI.more v0_p_ (by omega)
          have w54808 : 0 ≤ (u54801.2.1 0).toInt := by first | omega | assumption | rfl | (intros; rfl)
          have w54809 : (u54801.2.1 0).toInt ≤ 1600 := by first | omega | assumption | rfl | (intros; rfl)
          have w54810 : 0 ≤ (u54801.2.1 1).toInt := by first | omega | assumption | rfl | (intros; rfl)
          have w54811 : (u54801.2.1 1).toInt ≤ 5 := by first | omega | assumption | rfl | (intros; rfl)
          have w54812 : 0 ≤ (u54801.2.1 2).toInt := by first | omega | assumption | rfl | (intros; rfl)
          have w54813 : (u54801.2.1 2).toInt ≤ 1600 := by first | omega | assumption | rfl | (intros; rfl)
          have w54814 : 0 ≤ p_mC.toInt := by first | omega | assumption | rfl | (intros; rfl)
          have w54815 : p_mC.toInt ≤ 6 := by first | omega | assumption | rfl | (intros; rfl)
          have w54816 : 0 ≤ z54799.toInt := by first | omega | assumption | rfl | (intros; rfl)
          have w54817 : z54799.toInt ≤ 8 := by first | omega | assumption | rfl | (intros; rfl)
          have w54818 : 0 ≤ p_kC.toInt := by first | omega | assumption | rfl | (intros; rfl)
          have w54819 : p_kC.toInt ≤ 4 := by first | omega | assumption | rfl | (intros; rfl)
          have w54820 : PI p_mC z54799 p_members := by assumption
          have w54821 : e_faultKind.toInt = 0 → e_faultKind.toInt = 0 := by first | omega | assumption | rfl | (intros; rfl)
          exact W.vret hx hb hr (fun t ht hW => ⟨⟨((fun _ => p_members), (fun k => match k with | 0 => u54801.2.1 0 | 1 => u54801.2.1 1 | 2 => u54801.2.1 2 | 3 => u54801.2.1 3 | 4 => e_faultKind | 5 => e_faultPlace | 6 => p_mC | 7 => z54799 | _ => p_kC), (fun _ => u54801.2.2.1 0), (fun k => match k with | 0 => f54798 | _ => p_kN)), rfl, ⟨w54808, w54809, w54810, w54811, w54812, w54813, i0_p_members, w54814, w54815, w54816, w54817, w54818, w54819, w54820, w54821⟩, cE.of ht hP hD [4, 5, 2, 0, 3, 1] (by decide) rfl⟩, hS.F ht⟩) hS.2.2 dX2_readName_194
        · have c54797 := i_eq (a := x1.toInt) (b := 0) c54797 rfl (by decide)
          refine lv_aload_n hx hb dX2_readName_123 rfl (lv_at hl 1 rfl) ?_
          refine va_get (D := (dC, dI)) (ci := 2) (v := .ref hp) (C := RX2) (T := TX2) (N := 11) hx hb hts hi2 hown hK hP 3 rfl rfl 3 (by decide) (hts _ (ow_m (k := 1) rfl)) (fun _ h9 => h9) rfl dX2_readName_124 ?_
          refine va_get (D := (dC, dI)) (ci := 1) (v := .ref (pd 0)) (C := RX1) (T := TX1) (N := 11) hx hb hts hi1 hown hK hP 4 rfl rfl 0 (by decide) (hts _ (ow_m (k := 12) rfl)) (fun _ h9 => h9) rfl dX2_readName_127 ?_
          refine lv_aload_n hx hb dX2_readName_130 rfl (lv_at hl 1 rfl) ?_
          refine va_get (D := (dC, dI)) (ci := 2) (v := .ref hp) (C := RX2) (T := TX2) (N := 11) hx hb hts hi2 hown hK hP 3 rfl rfl 3 (by decide) (hts _ (ow_m (k := 1) rfl)) (fun _ h9 => h9) rfl dX2_readName_131 ?_
          refine va_get (D := (dC, dI)) (ci := 1) (v := .int p_mC) (C := RX1) (T := TX1) (N := 11) hx hb hts hi1 hown hK hP 4 rfl rfl 4 (by decide) (hts _ (ow_m (k := 13) rfl)) (fun _ h9 => h9) rfl dX2_readName_134 ?_
          refine lv_aload_n hx hb dX2_readName_137 rfl (lv_at hl 1 rfl) ?_
          refine va_get (D := (dC, dI)) (ci := 2) (v := .ref hp) (C := RX2) (T := TX2) (N := 11) hx hb hts hi2 hown hK hP 3 rfl rfl 3 (by decide) (hts _ (ow_m (k := 1) rfl)) (fun _ h9 => h9) rfl dX2_readName_138 ?_
          refine va_get (D := (dC, dI)) (ci := 1) (v := .int p_nC) (C := RX1) (T := TX1) (N := 11) hx hb hts hi1 hown hK hP 4 rfl rfl 5 (by decide) (hts _ (ow_m (k := 3) rfl)) (fun _ h9 => h9) rfl dX2_readName_141 ?_
          refine va_iast hx hb hK hP hD hS 1 1 rfl rfl (vp_i rfl (by omega) (by omega)) dX2_readName_144 (fun H locs hP hD hS => ?_)
          have hP : va_P (dC, dI) vwCl [(ed 0, .inl (cyB, 1600, .inl e_text)), (pd 0, .inl (cyI, 6, .inl (upd p_members p_mC.toNatClampNeg p_nC))), (pd 2, .inl (cyJ, 4, .inr (.inl p_kN))), (hR, .inr (2, [.ref (ed 0), .int e_length, .int e_at, .ref hp, .int e_kind, .int e_start, .int e_number, .long e_name, .int e_told, .int e_faultKind, .int e_faultPlace])), (hp, .inr (1, [.ref (pd 0), .ref (pd 1), .ref (pd 2), .ref hf, .int p_mC, .int p_nC, .int p_kC, .int p_units, .int p_copy, .int p_loss, .int p_draw])), (pd 1, .inl (cyJ, 8, .inr (.inl p_nN)))] H := hP
          have hD : va_D A [(ed 0, .inl (cyB, 1600, .inl e_text)), (pd 0, .inl (cyI, 6, .inl (upd p_members p_mC.toNatClampNeg p_nC))), (pd 2, .inl (cyJ, 4, .inr (.inl p_kN))), (hR, .inr (2, [.ref (ed 0), .int e_length, .int e_at, .ref hp, .int e_kind, .int e_start, .int e_number, .long e_name, .int e_told, .int e_faultKind, .int e_faultPlace])), (hp, .inr (1, [.ref (pd 0), .ref (pd 1), .ref (pd 2), .ref hf, .int p_mC, .int p_nC, .int p_kC, .int p_units, .int p_copy, .int p_loss, .int p_draw])), (pd 1, .inl (cyJ, 8, .inr (.inl p_nN)))] := hD
          have i54823 := i0_p_members.set (k := p_mC.toNatClampNeg) (x := p_nC) ⟨by omega, by omega⟩
          generalize ef54822 : upd p_members p_mC.toNatClampNeg p_nC = f54822 at hP hD i54823
          refine lv_aload_n hx hb dX2_readName_145 rfl (lv_at hl 1 rfl) ?_
          refine va_get (D := (dC, dI)) (ci := 2) (v := .ref hp) (C := RX2) (T := TX2) (N := 11) hx hb hts hi2 hown hK hP 3 rfl rfl 3 (by decide) (hts _ (ow_m (k := 1) rfl)) (fun _ h9 => h9) rfl dX2_readName_146 ?_
          refine lv_dup hx hb dX2_readName_149 rfl ?_
          refine va_get (D := (dC, dI)) (ci := 1) (v := .int p_mC) (C := RX1) (T := TX1) (N := 11) hx hb hts hi1 hown hK hP 4 rfl rfl 4 (by decide) (hts _ (ow_m (k := 13) rfl)) (fun _ h9 => h9) rfl dX2_readName_150 ?_
          refine lv_iconst (v := 1) hx hb dX2_readName_153 (by decide) ?_
          refine lv_iadd hx hb dX2_readName_154 ?_
          refine lv_topi (fun z54824 ez54824 => ?_)
          have tz54824 := ti_add (a := p_mC.toInt) (b := 1) ez54824 rfl (by decide) (by omega) (by omega)
          refine va_put (D := (dC, dI)) (ci := 1) (v := .int z54824) (ty := .int) (C := RX1) (T := TX1) (N := 11) hx hb hts hi1 tyX1 tyX1_ok nmX1 hown hK hP hD hS 4 rfl rfl 4 (by decide) (hts _ (ow_m (k := 13) rfl)) (fun _ h9 => h9) rfl (by decide +kernel) rfl rfl (Nat.le_of_ble_eq_true rfl) dX2_readName_155 (fun H locs hP hD hS => ?_)
          have hP : va_P (dC, dI) vwCl [(ed 0, .inl (cyB, 1600, .inl e_text)), (pd 0, .inl (cyI, 6, .inl f54822)), (pd 2, .inl (cyJ, 4, .inr (.inl p_kN))), (hR, .inr (2, [.ref (ed 0), .int e_length, .int e_at, .ref hp, .int e_kind, .int e_start, .int e_number, .long e_name, .int e_told, .int e_faultKind, .int e_faultPlace])), (hp, .inr (1, [.ref (pd 0), .ref (pd 1), .ref (pd 2), .ref hf, .int z54824, .int p_nC, .int p_kC, .int p_units, .int p_copy, .int p_loss, .int p_draw])), (pd 1, .inl (cyJ, 8, .inr (.inl p_nN)))] H := hP
          have hD : va_D A [(ed 0, .inl (cyB, 1600, .inl e_text)), (pd 0, .inl (cyI, 6, .inl f54822)), (pd 2, .inl (cyJ, 4, .inr (.inl p_kN))), (hR, .inr (2, [.ref (ed 0), .int e_length, .int e_at, .ref hp, .int e_kind, .int e_start, .int e_number, .long e_name, .int e_told, .int e_faultKind, .int e_faultPlace])), (hp, .inr (1, [.ref (pd 0), .ref (pd 1), .ref (pd 2), .ref hf, .int z54824, .int p_nC, .int p_kC, .int p_units, .int p_copy, .int p_loss, .int p_draw])), (pd 1, .inl (cyJ, 8, .inr (.inl p_nN)))] := hD
          refine lv_aload_n hx hb dX2_readName_158 rfl (lv_at hl 1 rfl) ?_
          refine va_get (D := (dC, dI)) (ci := 2) (v := .ref hp) (C := RX2) (T := TX2) (N := 11) hx hb hts hi2 hown hK hP 3 rfl rfl 3 (by decide) (hts _ (ow_m (k := 1) rfl)) (fun _ h9 => h9) rfl dX2_readName_159 ?_
          refine va_get (D := (dC, dI)) (ci := 1) (v := .ref (pd 1)) (C := RX1) (T := TX1) (N := 11) hx hb hts hi1 hown hK hP 4 rfl rfl 1 (by decide) (hts _ (ow_m (k := 2) rfl)) (fun _ h9 => h9) rfl dX2_readName_162 ?_
          refine lv_aload_n hx hb dX2_readName_165 rfl (lv_at hl 1 rfl) ?_
          refine va_get (D := (dC, dI)) (ci := 2) (v := .ref hp) (C := RX2) (T := TX2) (N := 11) hx hb hts hi2 hown hK hP 3 rfl rfl 3 (by decide) (hts _ (ow_m (k := 1) rfl)) (fun _ h9 => h9) rfl dX2_readName_166 ?_
          refine va_get (D := (dC, dI)) (ci := 1) (v := .int p_nC) (C := RX1) (T := TX1) (N := 11) hx hb hts hi1 hown hK hP 4 rfl rfl 5 (by decide) (hts _ (ow_m (k := 3) rfl)) (fun _ h9 => h9) rfl dX2_readName_169 ?_
          refine lv_aload_n hx hb dX2_readName_172 rfl (lv_at hl 1 rfl) ?_
          refine va_get (D := (dC, dI)) (ci := 2) (v := .long e_name) (C := RX2) (T := TX2) (N := 11) hx hb hts hi2 hown hK hP 3 rfl rfl 7 (by decide) (hts _ (ow_m (k := 8) rfl)) (fun _ h9 => h9) rfl dX2_readName_173 ?_
          refine va_last hx hb hK hP hD hS 5 2 rfl rfl (vp_i rfl (by omega) (by omega)) dX2_readName_176 (fun H locs hP hD hS => ?_)
          have hP : va_P (dC, dI) vwCl [(ed 0, .inl (cyB, 1600, .inl e_text)), (pd 0, .inl (cyI, 6, .inl f54822)), (pd 2, .inl (cyJ, 4, .inr (.inl p_kN))), (hR, .inr (2, [.ref (ed 0), .int e_length, .int e_at, .ref hp, .int e_kind, .int e_start, .int e_number, .long e_name, .int e_told, .int e_faultKind, .int e_faultPlace])), (hp, .inr (1, [.ref (pd 0), .ref (pd 1), .ref (pd 2), .ref hf, .int z54824, .int p_nC, .int p_kC, .int p_units, .int p_copy, .int p_loss, .int p_draw])), (pd 1, .inl (cyJ, 8, .inr (.inl (vp_updL p_nN p_nC.toNatClampNeg e_name))))] H := hP
          have hD : va_D A [(ed 0, .inl (cyB, 1600, .inl e_text)), (pd 0, .inl (cyI, 6, .inl f54822)), (pd 2, .inl (cyJ, 4, .inr (.inl p_kN))), (hR, .inr (2, [.ref (ed 0), .int e_length, .int e_at, .ref hp, .int e_kind, .int e_start, .int e_number, .long e_name, .int e_told, .int e_faultKind, .int e_faultPlace])), (hp, .inr (1, [.ref (pd 0), .ref (pd 1), .ref (pd 2), .ref hf, .int z54824, .int p_nC, .int p_kC, .int p_units, .int p_copy, .int p_loss, .int p_draw])), (pd 1, .inl (cyJ, 8, .inr (.inl (vp_updL p_nN p_nC.toNatClampNeg e_name))))] := hD
          generalize ef54825 : vp_updL p_nN p_nC.toNatClampNeg e_name = f54825 at hP hD
          refine lv_aload_n hx hb dX2_readName_177 rfl (lv_at hl 1 rfl) ?_
          refine va_get (D := (dC, dI)) (ci := 2) (v := .ref hp) (C := RX2) (T := TX2) (N := 11) hx hb hts hi2 hown hK hP 3 rfl rfl 3 (by decide) (hts _ (ow_m (k := 1) rfl)) (fun _ h9 => h9) rfl dX2_readName_178 ?_
          refine lv_dup hx hb dX2_readName_181 rfl ?_
          refine va_get (D := (dC, dI)) (ci := 1) (v := .int p_nC) (C := RX1) (T := TX1) (N := 11) hx hb hts hi1 hown hK hP 4 rfl rfl 5 (by decide) (hts _ (ow_m (k := 3) rfl)) (fun _ h9 => h9) rfl dX2_readName_182 ?_
          refine lv_iconst (v := 1) hx hb dX2_readName_185 (by decide) ?_
          refine lv_iadd hx hb dX2_readName_186 ?_
          refine lv_topi (fun z54826 ez54826 => ?_)
          have tz54826 := ti_add (a := p_nC.toInt) (b := 1) ez54826 rfl (by decide) (by omega) (by omega)
          refine va_put (D := (dC, dI)) (ci := 1) (v := .int z54826) (ty := .int) (C := RX1) (T := TX1) (N := 11) hx hb hts hi1 tyX1 tyX1_ok nmX1 hown hK hP hD hS 4 rfl rfl 5 (by decide) (hts _ (ow_m (k := 3) rfl)) (fun _ h9 => h9) rfl (by decide +kernel) rfl rfl (Nat.le_of_ble_eq_true rfl) dX2_readName_187 (fun H locs hP hD hS => ?_)
          have hP : va_P (dC, dI) vwCl [(ed 0, .inl (cyB, 1600, .inl e_text)), (pd 0, .inl (cyI, 6, .inl f54822)), (pd 2, .inl (cyJ, 4, .inr (.inl p_kN))), (hR, .inr (2, [.ref (ed 0), .int e_length, .int e_at, .ref hp, .int e_kind, .int e_start, .int e_number, .long e_name, .int e_told, .int e_faultKind, .int e_faultPlace])), (hp, .inr (1, [.ref (pd 0), .ref (pd 1), .ref (pd 2), .ref hf, .int z54824, .int z54826, .int p_kC, .int p_units, .int p_copy, .int p_loss, .int p_draw])), (pd 1, .inl (cyJ, 8, .inr (.inl f54825)))] H := hP
          have hD : va_D A [(ed 0, .inl (cyB, 1600, .inl e_text)), (pd 0, .inl (cyI, 6, .inl f54822)), (pd 2, .inl (cyJ, 4, .inr (.inl p_kN))), (hR, .inr (2, [.ref (ed 0), .int e_length, .int e_at, .ref hp, .int e_kind, .int e_start, .int e_number, .long e_name, .int e_told, .int e_faultKind, .int e_faultPlace])), (hp, .inr (1, [.ref (pd 0), .ref (pd 1), .ref (pd 2), .ref hf, .int z54824, .int z54826, .int p_kC, .int p_units, .int p_copy, .int p_loss, .int p_draw])), (pd 1, .inl (cyJ, 8, .inr (.inl f54825)))] := hD
          refine lv_aload_n hx hb dX2_readName_190 rfl (lv_at hl 1 rfl) ?_
          refine gf_v (wr := [(pd 0, .inl (cyI, 6, .inl f54822)), (pd 2, .inl (cyJ, 4, .inr (.inl p_kN))), (hp, .inr (1, [.ref (pd 0), .ref (pd 1), .ref (pd 2), .ref hf, .int z54824, .int z54826, .int p_kC, .int p_units, .int p_copy, .int p_loss, .int p_draw])), (pd 1, .inl (cyJ, 8, .inr (.inl f54825)))]) (va_runV (As := []) (rest := []) hfix (k_Re_advance l dC dI cyB cyI cyJ cyZ cyO adK adV hR ed e_text e_length e_at e_kind e_start e_number e_told e_faultKind e_faultPlace e_name hp _ (by first | omega | assumption) (by first | omega | assumption) (by first | omega | assumption) (by first | omega | assumption) (by first | omega | assumption) (by first | omega | assumption) (by first | omega | assumption) (by first | omega | assumption)) (cwV 0 hts (gi_V (ow_m (k := 9) rfl) (ow_m (k := 10) rfl) (ow_m (k := 11) rfl) (ow_m (k := 7) rfl) (sb_c (sb_r sb_l)) gd_k_Re_advance) rfl rfl rfl (by decide +kernel) ⟨Nat.le_of_ble_eq_true rfl, Nat.le_of_ble_eq_true rfl⟩) (g_preVZ hZ hS hA hKN hP hD [3, 0] rfl (by decide) 0 2 rfl rfl) rfl rfl hl.1 rfl (lv_room (Nat.le_of_ble_eq_true rfl)) dX2_readName_191 ⟨Nat.le_of_ble_eq_true rfl, Nat.le_of_ble_eq_true rfl⟩) hP hD hS hA [3, 0] [1, 2, 4, 5] rfl rfl (by decide) (by decide) (fun u54828 H locs qu54828 hP hD hS => ?_)
          obtain ⟨b54829, b54830, b54831, b54832, b54833, b54834⟩ := qu54828
          have hP : va_P (dC, dI) vwCl [(pd 0, .inl (cyI, 6, .inl f54822)), (pd 2, .inl (cyJ, 4, .inr (.inl p_kN))), (hp, .inr (1, [.ref (pd 0), .ref (pd 1), .ref (pd 2), .ref hf, .int z54824, .int z54826, .int p_kC, .int p_units, .int p_copy, .int p_loss, .int p_draw])), (pd 1, .inl (cyJ, 8, .inr (.inl f54825))), (hR, .inr (2, [.ref (ed 0), .int e_length, .int (u54828.2.1 0), .ref hp, .int (u54828.2.1 1), .int (u54828.2.1 2), .int (u54828.2.1 3), .long (u54828.2.2.1 0), .int e_told, .int e_faultKind, .int e_faultPlace])), (ed 0, .inl (cyB, 1600, .inl e_text))] H := hP
          have hD : va_D A [(pd 0, .inl (cyI, 6, .inl f54822)), (pd 2, .inl (cyJ, 4, .inr (.inl p_kN))), (hp, .inr (1, [.ref (pd 0), .ref (pd 1), .ref (pd 2), .ref hf, .int z54824, .int z54826, .int p_kC, .int p_units, .int p_copy, .int p_loss, .int p_draw])), (pd 1, .inl (cyJ, 8, .inr (.inl f54825))), (hR, .inr (2, [.ref (ed 0), .int e_length, .int (u54828.2.1 0), .ref hp, .int (u54828.2.1 1), .int (u54828.2.1 2), .int (u54828.2.1 3), .long (u54828.2.2.1 0), .int e_told, .int e_faultKind, .int e_faultPlace])), (ed 0, .inl (cyB, 1600, .inl e_text))] := hD
          have hPI9 : PI z54824 z54826 f54822 := PI.add v0_p_ l_p_mC l_p_nC (by omega) (by omega) ef54822
          have w54835 : 0 ≤ (u54828.2.1 0).toInt := by first | omega | assumption | rfl | (intros; rfl)
          have w54836 : (u54828.2.1 0).toInt ≤ 1600 := by first | omega | assumption | rfl | (intros; rfl)
          have w54837 : 0 ≤ (u54828.2.1 1).toInt := by first | omega | assumption | rfl | (intros; rfl)
          have w54838 : (u54828.2.1 1).toInt ≤ 5 := by first | omega | assumption | rfl | (intros; rfl)
          have w54839 : 0 ≤ (u54828.2.1 2).toInt := by first | omega | assumption | rfl | (intros; rfl)
          have w54840 : (u54828.2.1 2).toInt ≤ 1600 := by first | omega | assumption | rfl | (intros; rfl)
          have w54841 : 0 ≤ z54824.toInt := by first | omega | assumption | rfl | (intros; rfl)
          have w54842 : z54824.toInt ≤ 6 := by first | omega | assumption | rfl | (intros; rfl)
          have w54843 : 0 ≤ z54826.toInt := by first | omega | assumption | rfl | (intros; rfl)
          have w54844 : z54826.toInt ≤ 8 := by first | omega | assumption | rfl | (intros; rfl)
          have w54845 : 0 ≤ p_kC.toInt := by first | omega | assumption | rfl | (intros; rfl)
          have w54846 : p_kC.toInt ≤ 4 := by first | omega | assumption | rfl | (intros; rfl)
          have w54847 : PI z54824 z54826 f54822 := by assumption
          have w54848 : e_faultKind.toInt = 0 → e_faultKind.toInt = 0 := by first | omega | assumption | rfl | (intros; rfl)
          exact W.vret hx hb hr (fun t ht hW => ⟨⟨((fun _ => f54822), (fun k => match k with | 0 => u54828.2.1 0 | 1 => u54828.2.1 1 | 2 => u54828.2.1 2 | 3 => u54828.2.1 3 | 4 => e_faultKind | 5 => e_faultPlace | 6 => z54824 | 7 => z54826 | _ => p_kC), (fun _ => u54828.2.2.1 0), (fun k => match k with | 0 => f54825 | _ => p_kN)), rfl, ⟨w54835, w54836, w54837, w54838, w54839, w54840, i54823, w54841, w54842, w54843, w54844, w54845, w54846, w54847, w54848⟩, cE.of ht hP hD [4, 5, 2, 0, 3, 1] (by decide) rfl⟩, hS.F ht⟩) hS.2.2 dX2_readName_194
      · have c54795 := i_ne (a := r54791.toInt) (b := 0) c54795 rfl (by decide)
        refine lv_aload_n hx hb dX2_readName_74 rfl (lv_at hl 1 rfl) ?_
        refine lv_iconst (v := 3) hx hb dX2_readName_75 (by decide) ?_
        refine gf_v (wr := [(ed 0, .inl (cyB, 1600, .inl e_text)), (pd 0, .inl (cyI, 6, .inl p_members)), (pd 2, .inl (cyJ, 4, .inr (.inl p_kN))), (hp, .inr (1, [.ref (pd 0), .ref (pd 1), .ref (pd 2), .ref hf, .int p_mC, .int p_nC, .int p_kC, .int p_units, .int p_copy, .int p_loss, .int p_draw])), (pd 1, .inl (cyJ, 8, .inr (.inl p_nN)))]) (va_runV (As := [.int 3]) (rest := []) hfix (k_Re_refuse l dC dI cyB cyI cyJ cyZ cyO hR ed e_length e_at e_kind e_start e_number e_told e_faultKind e_faultPlace e_name (3 : Int32) hp _ (by first | omega | assumption) (by first | omega | assumption) (by first | omega | assumption) (by first | omega | assumption) (by first | omega | assumption) (by first | omega | assumption) (by first | omega | assumption) (by first | omega | assumption) (by first | omega | assumption) (by first | omega | assumption)) (cwV 1 hts (gi_V (ow_m (k := 14) rfl) (ow_m (k := 15) rfl) (ow_m (k := 16) rfl) (ow_m (k := 7) rfl) (sb_c (sb_r (sb_r sb_l))) gd_k_Re_refuse) rfl rfl rfl (by decide +kernel) ⟨Nat.le_of_ble_eq_true rfl, Nat.le_of_ble_eq_true rfl⟩) (g_preV hKN hP hD [3] rfl (by decide) 0 2 rfl rfl) rfl rfl hl.1 rfl (lv_room (Nat.le_of_ble_eq_true rfl)) dX2_readName_76 ⟨Nat.le_of_ble_eq_true rfl, Nat.le_of_ble_eq_true rfl⟩) hP hD hS hA [3] [0, 1, 2, 4, 5] rfl rfl (by decide) (by decide) (fun u54850 H locs qu54850 hP hD hS => ?_)
        have b54851 := qu54850
        have hP : va_P (dC, dI) vwCl [(ed 0, .inl (cyB, 1600, .inl e_text)), (pd 0, .inl (cyI, 6, .inl p_members)), (pd 2, .inl (cyJ, 4, .inr (.inl p_kN))), (hp, .inr (1, [.ref (pd 0), .ref (pd 1), .ref (pd 2), .ref hf, .int p_mC, .int p_nC, .int p_kC, .int p_units, .int p_copy, .int p_loss, .int p_draw])), (pd 1, .inl (cyJ, 8, .inr (.inl p_nN))), (hR, .inr (2, [.ref (ed 0), .int e_length, .int e_at, .ref hp, .int e_kind, .int e_start, .int e_number, .long e_name, .int e_told, .int (u54850.2.1 0), .int (u54850.2.1 1)]))] H := hP
        have hD : va_D A [(ed 0, .inl (cyB, 1600, .inl e_text)), (pd 0, .inl (cyI, 6, .inl p_members)), (pd 2, .inl (cyJ, 4, .inr (.inl p_kN))), (hp, .inr (1, [.ref (pd 0), .ref (pd 1), .ref (pd 2), .ref hf, .int p_mC, .int p_nC, .int p_kC, .int p_units, .int p_copy, .int p_loss, .int p_draw])), (pd 1, .inl (cyJ, 8, .inr (.inl p_nN))), (hR, .inr (2, [.ref (ed 0), .int e_length, .int e_at, .ref hp, .int e_kind, .int e_start, .int e_number, .long e_name, .int e_told, .int (u54850.2.1 0), .int (u54850.2.1 1)]))] := hD
        have w54852 : 0 ≤ e_at.toInt := by first | omega | assumption | rfl | (intros; rfl)
        have w54853 : e_at.toInt ≤ 1600 := by first | omega | assumption | rfl | (intros; rfl)
        have w54854 : 0 ≤ e_kind.toInt := by first | omega | assumption | rfl | (intros; rfl)
        have w54855 : e_kind.toInt ≤ 5 := by first | omega | assumption | rfl | (intros; rfl)
        have w54856 : 0 ≤ e_start.toInt := by first | omega | assumption | rfl | (intros; rfl)
        have w54857 : e_start.toInt ≤ 1600 := by first | omega | assumption | rfl | (intros; rfl)
        have w54858 : 0 ≤ p_mC.toInt := by first | omega | assumption | rfl | (intros; rfl)
        have w54859 : p_mC.toInt ≤ 6 := by first | omega | assumption | rfl | (intros; rfl)
        have w54860 : 0 ≤ p_nC.toInt := by first | omega | assumption | rfl | (intros; rfl)
        have w54861 : p_nC.toInt ≤ 8 := by first | omega | assumption | rfl | (intros; rfl)
        have w54862 : 0 ≤ p_kC.toInt := by first | omega | assumption | rfl | (intros; rfl)
        have w54863 : p_kC.toInt ≤ 4 := by first | omega | assumption | rfl | (intros; rfl)
        have w54864 : PI p_mC p_nC p_members := by assumption
        have w54865 : (u54850.2.1 0).toInt = 0 → e_faultKind.toInt = 0 := by first | omega | assumption | rfl | (intros; rfl)
        exact W.vret hx hb hr (fun t ht hW => ⟨⟨((fun _ => p_members), (fun k => match k with | 0 => e_at | 1 => e_kind | 2 => e_start | 3 => e_number | 4 => u54850.2.1 0 | 5 => u54850.2.1 1 | 6 => p_mC | 7 => p_nC | _ => p_kC), (fun _ => e_name), (fun k => match k with | 0 => p_nN | _ => p_kN)), rfl, ⟨w54852, w54853, w54854, w54855, w54856, w54857, i0_p_members, w54858, w54859, w54860, w54861, w54862, w54863, w54864, w54865⟩, cE.of ht hP hD [5, 0, 3, 1, 4, 2] (by decide) rfl⟩, hS.F ht⟩) hS.2.2 dX2_readName_79
    · have c54788 := i_eq (a := x1.toInt) (b := 2) c54788 rfl (by decide)
      refine lv_iconst (v := 1) hx hb dX2_readName_19 (by decide) ?_
      refine lv_goto (tgt := 24) hx hb dX2_readName_20 (by decide) ?_
      refine lv_istore_n (lv' := [(2, .int 1), (0, .ref hR), (1, .int x1)]) hx hb dX2_readName_24 rfl hl (by decide) rfl (fun ls hl => ?_)
      refine lv_aload_n hx hb dX2_readName_25 rfl (lv_at hl 1 rfl) ?_
      refine lv_iload_n hx hb dX2_readName_26 rfl (lv_at hl 0 rfl) ?_
      refine lv_if_eq (tgt := 40) hx hb dX2_readName_27 (by decide) (fun c54866 => absurd c54866 (by decide)) (fun _ => ?_)
      refine lv_aload_n hx hb dX2_readName_30 rfl (lv_at hl 1 rfl) ?_
      refine va_get (D := (dC, dI)) (ci := 2) (v := .ref hp) (C := RX2) (T := TX2) (N := 11) hx hb hts hi2 hown hK hP 0 rfl rfl 3 (by decide) (hts _ (ow_m (k := 1) rfl)) (fun _ h9 => h9) rfl dX2_readName_31 ?_
      refine va_get (D := (dC, dI)) (ci := 1) (v := .ref (pd 2)) (C := RX1) (T := TX1) (N := 11) hx hb hts hi1 hown hK hP 2 rfl rfl 2 (by decide) (hts _ (ow_m (k := 17) rfl)) (fun _ h9 => h9) rfl dX2_readName_34 ?_
      refine lv_goto (tgt := 47) hx hb dX2_readName_37 (by decide) ?_
      refine lv_iload_n hx hb dX2_readName_47 rfl (lv_at hl 0 rfl) ?_
      refine lv_if_eq (tgt := 61) hx hb dX2_readName_48 (by decide) (fun c54867 => absurd c54867 (by decide)) (fun _ => ?_)
      refine lv_aload_n hx hb dX2_readName_51 rfl (lv_at hl 1 rfl) ?_
      refine va_get (D := (dC, dI)) (ci := 2) (v := .ref hp) (C := RX2) (T := TX2) (N := 11) hx hb hts hi2 hown hK hP 0 rfl rfl 3 (by decide) (hts _ (ow_m (k := 1) rfl)) (fun _ h9 => h9) rfl dX2_readName_52 ?_
      refine va_get (D := (dC, dI)) (ci := 1) (v := .int p_kC) (C := RX1) (T := TX1) (N := 11) hx hb hts hi1 hown hK hP 2 rfl rfl 6 (by decide) (hts _ (ow_m (k := 18) rfl)) (fun _ h9 => h9) rfl dX2_readName_55 ?_
      refine lv_goto (tgt := 68) hx hb dX2_readName_58 (by decide) ?_
      refine gf_i (wr := [(ed 0, .inl (cyB, 1600, .inl e_text)), (pd 0, .inl (cyI, 6, .inl p_members)), (pd 1, .inl (cyJ, 8, .inr (.inl p_nN)))]) (va_runV (As := [.ref (pd 2), .int p_kC]) (rest := []) hfix (k_Re_isTold_kN l dC dI cyB cyI cyJ cyZ cyO hR ed e_length e_at e_kind e_start e_number e_told e_faultKind e_faultPlace e_name hp pd p_kN p_mC p_nC p_kC p_units p_copy p_loss p_draw p_kC hf _ (by first | omega | assumption) (by first | omega | assumption) (by first | omega | assumption) (by first | omega | assumption) (by first | omega | assumption) (by first | omega | assumption) (by first | omega | assumption) (by first | omega | assumption) (by first | omega | assumption) (by first | omega | assumption) (by first | omega | assumption) (by first | omega | assumption) (by first | omega | assumption) (by first | omega | assumption)) (cwV 2 hts (gi_V (ow_m (k := 4) rfl) (ow_m (k := 5) rfl) (ow_m (k := 6) rfl) (ow_m (k := 7) rfl) (sb_c (sb_r (sb_r (sb_r sb_l)))) gd_k_Re_isTold_kN) rfl rfl rfl (by decide +kernel) ⟨Nat.le_of_ble_eq_true rfl, Nat.le_of_ble_eq_true rfl⟩) (g_preV hKN hP hD [0, 2, 5] rfl (by decide) 0 2 rfl rfl) rfl rfl hl.1 rfl (lv_room (Nat.le_of_ble_eq_true rfl)) dX2_readName_68 ⟨Nat.le_of_ble_eq_true rfl, Nat.le_of_ble_eq_true rfl⟩) hP hD hS hA [0, 2, 5] [1, 3, 4] rfl rfl (by decide) (by decide) (fun r54868 u54869 H locs qu54869 hP hD hS => ?_)
      obtain ⟨b54870, b54871⟩ := qu54869
      have hP : va_P (dC, dI) vwCl [(ed 0, .inl (cyB, 1600, .inl e_text)), (pd 0, .inl (cyI, 6, .inl p_members)), (pd 1, .inl (cyJ, 8, .inr (.inl p_nN))), (hR, .inr (2, [.ref (ed 0), .int e_length, .int e_at, .ref hp, .int e_kind, .int e_start, .int e_number, .long e_name, .int e_told, .int e_faultKind, .int e_faultPlace])), (hp, .inr (1, [.ref (pd 0), .ref (pd 1), .ref (pd 2), .ref hf, .int p_mC, .int p_nC, .int p_kC, .int p_units, .int p_copy, .int p_loss, .int p_draw])), (pd 2, .inl (cyJ, 4, .inr (.inl p_kN)))] H := hP
      have hD : va_D A [(ed 0, .inl (cyB, 1600, .inl e_text)), (pd 0, .inl (cyI, 6, .inl p_members)), (pd 1, .inl (cyJ, 8, .inr (.inl p_nN))), (hR, .inr (2, [.ref (ed 0), .int e_length, .int e_at, .ref hp, .int e_kind, .int e_start, .int e_number, .long e_name, .int e_told, .int e_faultKind, .int e_faultPlace])), (hp, .inr (1, [.ref (pd 0), .ref (pd 1), .ref (pd 2), .ref hf, .int p_mC, .int p_nC, .int p_kC, .int p_units, .int p_copy, .int p_loss, .int p_draw])), (pd 2, .inl (cyJ, 4, .inr (.inl p_kN)))] := hD
      refine lv_if_eq (tgt := 80) hx hb dX2_readName_71 (by decide) (fun c54872 => ?_) (fun c54872 => ?_)
      · have c54872 := i_eq (a := r54868.toInt) (b := 0) c54872 rfl (by decide)
        refine lv_iload_n hx hb dX2_readName_80 rfl (lv_at hl 0 rfl) ?_
        refine lv_if_eq (tgt := 119) hx hb dX2_readName_81 (by decide) (fun c54873 => absurd c54873 (by decide)) (fun _ => ?_)
        refine lv_aload_n hx hb dX2_readName_84 rfl (lv_at hl 1 rfl) ?_
        refine va_get (D := (dC, dI)) (ci := 2) (v := .ref hp) (C := RX2) (T := TX2) (N := 11) hx hb hts hi2 hown hK hP 3 rfl rfl 3 (by decide) (hts _ (ow_m (k := 1) rfl)) (fun _ h9 => h9) rfl dX2_readName_85 ?_
        refine va_get (D := (dC, dI)) (ci := 1) (v := .ref (pd 2)) (C := RX1) (T := TX1) (N := 11) hx hb hts hi1 hown hK hP 4 rfl rfl 2 (by decide) (hts _ (ow_m (k := 17) rfl)) (fun _ h9 => h9) rfl dX2_readName_88 ?_
        refine lv_aload_n hx hb dX2_readName_91 rfl (lv_at hl 1 rfl) ?_
        refine va_get (D := (dC, dI)) (ci := 2) (v := .ref hp) (C := RX2) (T := TX2) (N := 11) hx hb hts hi2 hown hK hP 3 rfl rfl 3 (by decide) (hts _ (ow_m (k := 1) rfl)) (fun _ h9 => h9) rfl dX2_readName_92 ?_
        refine va_get (D := (dC, dI)) (ci := 1) (v := .int p_kC) (C := RX1) (T := TX1) (N := 11) hx hb hts hi1 hown hK hP 4 rfl rfl 6 (by decide) (hts _ (ow_m (k := 18) rfl)) (fun _ h9 => h9) rfl dX2_readName_95 ?_
        refine lv_aload_n hx hb dX2_readName_98 rfl (lv_at hl 1 rfl) ?_
        refine va_get (D := (dC, dI)) (ci := 2) (v := .long e_name) (C := RX2) (T := TX2) (N := 11) hx hb hts hi2 hown hK hP 3 rfl rfl 7 (by decide) (hts _ (ow_m (k := 8) rfl)) (fun _ h9 => h9) rfl dX2_readName_99 ?_
        refine va_last hx hb hK hP hD hS 5 2 rfl rfl (vp_i rfl (by omega) (by omega)) dX2_readName_102 (fun H locs hP hD hS => ?_)
        have hP : va_P (dC, dI) vwCl [(ed 0, .inl (cyB, 1600, .inl e_text)), (pd 0, .inl (cyI, 6, .inl p_members)), (pd 1, .inl (cyJ, 8, .inr (.inl p_nN))), (hR, .inr (2, [.ref (ed 0), .int e_length, .int e_at, .ref hp, .int e_kind, .int e_start, .int e_number, .long e_name, .int e_told, .int e_faultKind, .int e_faultPlace])), (hp, .inr (1, [.ref (pd 0), .ref (pd 1), .ref (pd 2), .ref hf, .int p_mC, .int p_nC, .int p_kC, .int p_units, .int p_copy, .int p_loss, .int p_draw])), (pd 2, .inl (cyJ, 4, .inr (.inl (vp_updL p_kN p_kC.toNatClampNeg e_name))))] H := hP
        have hD : va_D A [(ed 0, .inl (cyB, 1600, .inl e_text)), (pd 0, .inl (cyI, 6, .inl p_members)), (pd 1, .inl (cyJ, 8, .inr (.inl p_nN))), (hR, .inr (2, [.ref (ed 0), .int e_length, .int e_at, .ref hp, .int e_kind, .int e_start, .int e_number, .long e_name, .int e_told, .int e_faultKind, .int e_faultPlace])), (hp, .inr (1, [.ref (pd 0), .ref (pd 1), .ref (pd 2), .ref hf, .int p_mC, .int p_nC, .int p_kC, .int p_units, .int p_copy, .int p_loss, .int p_draw])), (pd 2, .inl (cyJ, 4, .inr (.inl (vp_updL p_kN p_kC.toNatClampNeg e_name))))] := hD
        generalize ef54874 : vp_updL p_kN p_kC.toNatClampNeg e_name = f54874 at hP hD
        refine lv_aload_n hx hb dX2_readName_103 rfl (lv_at hl 1 rfl) ?_
        refine va_get (D := (dC, dI)) (ci := 2) (v := .ref hp) (C := RX2) (T := TX2) (N := 11) hx hb hts hi2 hown hK hP 3 rfl rfl 3 (by decide) (hts _ (ow_m (k := 1) rfl)) (fun _ h9 => h9) rfl dX2_readName_104 ?_
        refine lv_dup hx hb dX2_readName_107 rfl ?_
        refine va_get (D := (dC, dI)) (ci := 1) (v := .int p_kC) (C := RX1) (T := TX1) (N := 11) hx hb hts hi1 hown hK hP 4 rfl rfl 6 (by decide) (hts _ (ow_m (k := 18) rfl)) (fun _ h9 => h9) rfl dX2_readName_108 ?_
        refine lv_iconst (v := 1) hx hb dX2_readName_111 (by decide) ?_
        refine lv_iadd hx hb dX2_readName_112 ?_
        refine lv_topi (fun z54875 ez54875 => ?_)
        have tz54875 := ti_add (a := p_kC.toInt) (b := 1) ez54875 rfl (by decide) (by omega) (by omega)
        refine va_put (D := (dC, dI)) (ci := 1) (v := .int z54875) (ty := .int) (C := RX1) (T := TX1) (N := 11) hx hb hts hi1 tyX1 tyX1_ok nmX1 hown hK hP hD hS 4 rfl rfl 6 (by decide) (hts _ (ow_m (k := 18) rfl)) (fun _ h9 => h9) rfl (by decide +kernel) rfl rfl (Nat.le_of_ble_eq_true rfl) dX2_readName_113 (fun H locs hP hD hS => ?_)
        have hP : va_P (dC, dI) vwCl [(ed 0, .inl (cyB, 1600, .inl e_text)), (pd 0, .inl (cyI, 6, .inl p_members)), (pd 1, .inl (cyJ, 8, .inr (.inl p_nN))), (hR, .inr (2, [.ref (ed 0), .int e_length, .int e_at, .ref hp, .int e_kind, .int e_start, .int e_number, .long e_name, .int e_told, .int e_faultKind, .int e_faultPlace])), (hp, .inr (1, [.ref (pd 0), .ref (pd 1), .ref (pd 2), .ref hf, .int p_mC, .int p_nC, .int z54875, .int p_units, .int p_copy, .int p_loss, .int p_draw])), (pd 2, .inl (cyJ, 4, .inr (.inl f54874)))] H := hP
        have hD : va_D A [(ed 0, .inl (cyB, 1600, .inl e_text)), (pd 0, .inl (cyI, 6, .inl p_members)), (pd 1, .inl (cyJ, 8, .inr (.inl p_nN))), (hR, .inr (2, [.ref (ed 0), .int e_length, .int e_at, .ref hp, .int e_kind, .int e_start, .int e_number, .long e_name, .int e_told, .int e_faultKind, .int e_faultPlace])), (hp, .inr (1, [.ref (pd 0), .ref (pd 1), .ref (pd 2), .ref hf, .int p_mC, .int p_nC, .int z54875, .int p_units, .int p_copy, .int p_loss, .int p_draw])), (pd 2, .inl (cyJ, 4, .inr (.inl f54874)))] := hD
        refine lv_goto (tgt := 190) hx hb dX2_readName_116 (by decide) ?_
        refine lv_aload_n hx hb dX2_readName_190 rfl (lv_at hl 1 rfl) ?_
        refine gf_v (wr := [(pd 0, .inl (cyI, 6, .inl p_members)), (pd 1, .inl (cyJ, 8, .inr (.inl p_nN))), (hp, .inr (1, [.ref (pd 0), .ref (pd 1), .ref (pd 2), .ref hf, .int p_mC, .int p_nC, .int z54875, .int p_units, .int p_copy, .int p_loss, .int p_draw])), (pd 2, .inl (cyJ, 4, .inr (.inl f54874)))]) (va_runV (As := []) (rest := []) hfix (k_Re_advance l dC dI cyB cyI cyJ cyZ cyO adK adV hR ed e_text e_length e_at e_kind e_start e_number e_told e_faultKind e_faultPlace e_name hp _ (by first | omega | assumption) (by first | omega | assumption) (by first | omega | assumption) (by first | omega | assumption) (by first | omega | assumption) (by first | omega | assumption) (by first | omega | assumption) (by first | omega | assumption)) (cwV 0 hts (gi_V (ow_m (k := 9) rfl) (ow_m (k := 10) rfl) (ow_m (k := 11) rfl) (ow_m (k := 7) rfl) (sb_c (sb_r sb_l)) gd_k_Re_advance) rfl rfl rfl (by decide +kernel) ⟨Nat.le_of_ble_eq_true rfl, Nat.le_of_ble_eq_true rfl⟩) (g_preVZ hZ hS hA hKN hP hD [3, 0] rfl (by decide) 0 2 rfl rfl) rfl rfl hl.1 rfl (lv_room (Nat.le_of_ble_eq_true rfl)) dX2_readName_191 ⟨Nat.le_of_ble_eq_true rfl, Nat.le_of_ble_eq_true rfl⟩) hP hD hS hA [3, 0] [1, 2, 4, 5] rfl rfl (by decide) (by decide) (fun u54877 H locs qu54877 hP hD hS => ?_)
        obtain ⟨b54878, b54879, b54880, b54881, b54882, b54883⟩ := qu54877
        have hP : va_P (dC, dI) vwCl [(pd 0, .inl (cyI, 6, .inl p_members)), (pd 1, .inl (cyJ, 8, .inr (.inl p_nN))), (hp, .inr (1, [.ref (pd 0), .ref (pd 1), .ref (pd 2), .ref hf, .int p_mC, .int p_nC, .int z54875, .int p_units, .int p_copy, .int p_loss, .int p_draw])), (pd 2, .inl (cyJ, 4, .inr (.inl f54874))), (hR, .inr (2, [.ref (ed 0), .int e_length, .int (u54877.2.1 0), .ref hp, .int (u54877.2.1 1), .int (u54877.2.1 2), .int (u54877.2.1 3), .long (u54877.2.2.1 0), .int e_told, .int e_faultKind, .int e_faultPlace])), (ed 0, .inl (cyB, 1600, .inl e_text))] H := hP
        have hD : va_D A [(pd 0, .inl (cyI, 6, .inl p_members)), (pd 1, .inl (cyJ, 8, .inr (.inl p_nN))), (hp, .inr (1, [.ref (pd 0), .ref (pd 1), .ref (pd 2), .ref hf, .int p_mC, .int p_nC, .int z54875, .int p_units, .int p_copy, .int p_loss, .int p_draw])), (pd 2, .inl (cyJ, 4, .inr (.inl f54874))), (hR, .inr (2, [.ref (ed 0), .int e_length, .int (u54877.2.1 0), .ref hp, .int (u54877.2.1 1), .int (u54877.2.1 2), .int (u54877.2.1 3), .long (u54877.2.2.1 0), .int e_told, .int e_faultKind, .int e_faultPlace])), (ed 0, .inl (cyB, 1600, .inl e_text))] := hD
        have w54884 : 0 ≤ (u54877.2.1 0).toInt := by first | omega | assumption | rfl | (intros; rfl)
        have w54885 : (u54877.2.1 0).toInt ≤ 1600 := by first | omega | assumption | rfl | (intros; rfl)
        have w54886 : 0 ≤ (u54877.2.1 1).toInt := by first | omega | assumption | rfl | (intros; rfl)
        have w54887 : (u54877.2.1 1).toInt ≤ 5 := by first | omega | assumption | rfl | (intros; rfl)
        have w54888 : 0 ≤ (u54877.2.1 2).toInt := by first | omega | assumption | rfl | (intros; rfl)
        have w54889 : (u54877.2.1 2).toInt ≤ 1600 := by first | omega | assumption | rfl | (intros; rfl)
        have w54890 : 0 ≤ p_mC.toInt := by first | omega | assumption | rfl | (intros; rfl)
        have w54891 : p_mC.toInt ≤ 6 := by first | omega | assumption | rfl | (intros; rfl)
        have w54892 : 0 ≤ p_nC.toInt := by first | omega | assumption | rfl | (intros; rfl)
        have w54893 : p_nC.toInt ≤ 8 := by first | omega | assumption | rfl | (intros; rfl)
        have w54894 : 0 ≤ z54875.toInt := by first | omega | assumption | rfl | (intros; rfl)
        have w54895 : z54875.toInt ≤ 4 := by first | omega | assumption | rfl | (intros; rfl)
        have w54896 : PI p_mC p_nC p_members := by assumption
        have w54897 : e_faultKind.toInt = 0 → e_faultKind.toInt = 0 := by first | omega | assumption | rfl | (intros; rfl)
        exact W.vret hx hb hr (fun t ht hW => ⟨⟨((fun _ => p_members), (fun k => match k with | 0 => u54877.2.1 0 | 1 => u54877.2.1 1 | 2 => u54877.2.1 2 | 3 => u54877.2.1 3 | 4 => e_faultKind | 5 => e_faultPlace | 6 => p_mC | 7 => p_nC | _ => z54875), (fun _ => u54877.2.2.1 0), (fun k => match k with | 0 => p_nN | _ => f54874)), rfl, ⟨w54884, w54885, w54886, w54887, w54888, w54889, i0_p_members, w54890, w54891, w54892, w54893, w54894, w54895, w54896, w54897⟩, cE.of ht hP hD [4, 5, 2, 0, 1, 3] (by decide) rfl⟩, hS.F ht⟩) hS.2.2 dX2_readName_194
      · have c54872 := i_ne (a := r54868.toInt) (b := 0) c54872 rfl (by decide)
        refine lv_aload_n hx hb dX2_readName_74 rfl (lv_at hl 1 rfl) ?_
        refine lv_iconst (v := 3) hx hb dX2_readName_75 (by decide) ?_
        refine gf_v (wr := [(ed 0, .inl (cyB, 1600, .inl e_text)), (pd 0, .inl (cyI, 6, .inl p_members)), (pd 1, .inl (cyJ, 8, .inr (.inl p_nN))), (hp, .inr (1, [.ref (pd 0), .ref (pd 1), .ref (pd 2), .ref hf, .int p_mC, .int p_nC, .int p_kC, .int p_units, .int p_copy, .int p_loss, .int p_draw])), (pd 2, .inl (cyJ, 4, .inr (.inl p_kN)))]) (va_runV (As := [.int 3]) (rest := []) hfix (k_Re_refuse l dC dI cyB cyI cyJ cyZ cyO hR ed e_length e_at e_kind e_start e_number e_told e_faultKind e_faultPlace e_name (3 : Int32) hp _ (by first | omega | assumption) (by first | omega | assumption) (by first | omega | assumption) (by first | omega | assumption) (by first | omega | assumption) (by first | omega | assumption) (by first | omega | assumption) (by first | omega | assumption) (by first | omega | assumption) (by first | omega | assumption)) (cwV 1 hts (gi_V (ow_m (k := 14) rfl) (ow_m (k := 15) rfl) (ow_m (k := 16) rfl) (ow_m (k := 7) rfl) (sb_c (sb_r (sb_r sb_l))) gd_k_Re_refuse) rfl rfl rfl (by decide +kernel) ⟨Nat.le_of_ble_eq_true rfl, Nat.le_of_ble_eq_true rfl⟩) (g_preV hKN hP hD [3] rfl (by decide) 0 2 rfl rfl) rfl rfl hl.1 rfl (lv_room (Nat.le_of_ble_eq_true rfl)) dX2_readName_76 ⟨Nat.le_of_ble_eq_true rfl, Nat.le_of_ble_eq_true rfl⟩) hP hD hS hA [3] [0, 1, 2, 4, 5] rfl rfl (by decide) (by decide) (fun u54899 H locs qu54899 hP hD hS => ?_)
        have b54900 := qu54899
        have hP : va_P (dC, dI) vwCl [(ed 0, .inl (cyB, 1600, .inl e_text)), (pd 0, .inl (cyI, 6, .inl p_members)), (pd 1, .inl (cyJ, 8, .inr (.inl p_nN))), (hp, .inr (1, [.ref (pd 0), .ref (pd 1), .ref (pd 2), .ref hf, .int p_mC, .int p_nC, .int p_kC, .int p_units, .int p_copy, .int p_loss, .int p_draw])), (pd 2, .inl (cyJ, 4, .inr (.inl p_kN))), (hR, .inr (2, [.ref (ed 0), .int e_length, .int e_at, .ref hp, .int e_kind, .int e_start, .int e_number, .long e_name, .int e_told, .int (u54899.2.1 0), .int (u54899.2.1 1)]))] H := hP
        have hD : va_D A [(ed 0, .inl (cyB, 1600, .inl e_text)), (pd 0, .inl (cyI, 6, .inl p_members)), (pd 1, .inl (cyJ, 8, .inr (.inl p_nN))), (hp, .inr (1, [.ref (pd 0), .ref (pd 1), .ref (pd 2), .ref hf, .int p_mC, .int p_nC, .int p_kC, .int p_units, .int p_copy, .int p_loss, .int p_draw])), (pd 2, .inl (cyJ, 4, .inr (.inl p_kN))), (hR, .inr (2, [.ref (ed 0), .int e_length, .int e_at, .ref hp, .int e_kind, .int e_start, .int e_number, .long e_name, .int e_told, .int (u54899.2.1 0), .int (u54899.2.1 1)]))] := hD
        have w54901 : 0 ≤ e_at.toInt := by first | omega | assumption | rfl | (intros; rfl)
        have w54902 : e_at.toInt ≤ 1600 := by first | omega | assumption | rfl | (intros; rfl)
        have w54903 : 0 ≤ e_kind.toInt := by first | omega | assumption | rfl | (intros; rfl)
        have w54904 : e_kind.toInt ≤ 5 := by first | omega | assumption | rfl | (intros; rfl)
        have w54905 : 0 ≤ e_start.toInt := by first | omega | assumption | rfl | (intros; rfl)
        have w54906 : e_start.toInt ≤ 1600 := by first | omega | assumption | rfl | (intros; rfl)
        have w54907 : 0 ≤ p_mC.toInt := by first | omega | assumption | rfl | (intros; rfl)
        have w54908 : p_mC.toInt ≤ 6 := by first | omega | assumption | rfl | (intros; rfl)
        have w54909 : 0 ≤ p_nC.toInt := by first | omega | assumption | rfl | (intros; rfl)
        have w54910 : p_nC.toInt ≤ 8 := by first | omega | assumption | rfl | (intros; rfl)
        have w54911 : 0 ≤ p_kC.toInt := by first | omega | assumption | rfl | (intros; rfl)
        have w54912 : p_kC.toInt ≤ 4 := by first | omega | assumption | rfl | (intros; rfl)
        have w54913 : PI p_mC p_nC p_members := by assumption
        have w54914 : (u54899.2.1 0).toInt = 0 → e_faultKind.toInt = 0 := by first | omega | assumption | rfl | (intros; rfl)
        exact W.vret hx hb hr (fun t ht hW => ⟨⟨((fun _ => p_members), (fun k => match k with | 0 => e_at | 1 => e_kind | 2 => e_start | 3 => e_number | 4 => u54899.2.1 0 | 5 => u54899.2.1 1 | 6 => p_mC | 7 => p_nC | _ => p_kC), (fun _ => e_name), (fun k => match k with | 0 => p_nN | _ => p_kN)), rfl, ⟨w54901, w54902, w54903, w54904, w54905, w54906, i0_p_members, w54907, w54908, w54909, w54910, w54911, w54912, w54913, w54914⟩, cE.of ht hP hD [5, 0, 3, 1, 2, 4] (by decide) rfl⟩, hS.F ht⟩) hS.2.2 dX2_readName_79
  · have c54787 := i_ne (a := e_kind.toInt) (b := 2) c54787 rfl (by decide)
    refine lv_aload_n hx hb dX2_readName_8 rfl (lv_at hl 0 rfl) ?_
    refine lv_iconst (v := 2) hx hb dX2_readName_9 (by decide) ?_
    refine gf_v (wr := [(ed 0, .inl (cyB, 1600, .inl e_text)), (hp, .inr (1, [.ref (pd 0), .ref (pd 1), .ref (pd 2), .ref hf, .int p_mC, .int p_nC, .int p_kC, .int p_units, .int p_copy, .int p_loss, .int p_draw])), (pd 0, .inl (cyI, 6, .inl p_members)), (pd 1, .inl (cyJ, 8, .inr (.inl p_nN))), (pd 2, .inl (cyJ, 4, .inr (.inl p_kN)))]) (va_runV (As := [.int 2]) (rest := []) hfix (k_Re_refuse l dC dI cyB cyI cyJ cyZ cyO hR ed e_length e_at e_kind e_start e_number e_told e_faultKind e_faultPlace e_name (2 : Int32) hp _ (by first | omega | assumption) (by first | omega | assumption) (by first | omega | assumption) (by first | omega | assumption) (by first | omega | assumption) (by first | omega | assumption) (by first | omega | assumption) (by first | omega | assumption) (by first | omega | assumption) (by first | omega | assumption)) (cwV 1 hts (gi_V (ow_m (k := 14) rfl) (ow_m (k := 15) rfl) (ow_m (k := 16) rfl) (ow_m (k := 7) rfl) (sb_c (sb_r (sb_r sb_l))) gd_k_Re_refuse) rfl rfl rfl (by decide +kernel) ⟨Nat.le_of_ble_eq_true rfl, Nat.le_of_ble_eq_true rfl⟩) (g_preV hKN hP hD [0] rfl (by decide) 0 2 rfl rfl) rfl rfl hl.1 rfl (lv_room (Nat.le_of_ble_eq_true rfl)) dX2_readName_10 ⟨Nat.le_of_ble_eq_true rfl, Nat.le_of_ble_eq_true rfl⟩) hP hD hS hA [0] [1, 2, 3, 4, 5] rfl rfl (by decide) (by decide) (fun u54916 H locs qu54916 hP hD hS => ?_)
    have b54917 := qu54916
    have hP : va_P (dC, dI) vwCl [(ed 0, .inl (cyB, 1600, .inl e_text)), (hp, .inr (1, [.ref (pd 0), .ref (pd 1), .ref (pd 2), .ref hf, .int p_mC, .int p_nC, .int p_kC, .int p_units, .int p_copy, .int p_loss, .int p_draw])), (pd 0, .inl (cyI, 6, .inl p_members)), (pd 1, .inl (cyJ, 8, .inr (.inl p_nN))), (pd 2, .inl (cyJ, 4, .inr (.inl p_kN))), (hR, .inr (2, [.ref (ed 0), .int e_length, .int e_at, .ref hp, .int e_kind, .int e_start, .int e_number, .long e_name, .int e_told, .int (u54916.2.1 0), .int (u54916.2.1 1)]))] H := hP
    have hD : va_D A [(ed 0, .inl (cyB, 1600, .inl e_text)), (hp, .inr (1, [.ref (pd 0), .ref (pd 1), .ref (pd 2), .ref hf, .int p_mC, .int p_nC, .int p_kC, .int p_units, .int p_copy, .int p_loss, .int p_draw])), (pd 0, .inl (cyI, 6, .inl p_members)), (pd 1, .inl (cyJ, 8, .inr (.inl p_nN))), (pd 2, .inl (cyJ, 4, .inr (.inl p_kN))), (hR, .inr (2, [.ref (ed 0), .int e_length, .int e_at, .ref hp, .int e_kind, .int e_start, .int e_number, .long e_name, .int e_told, .int (u54916.2.1 0), .int (u54916.2.1 1)]))] := hD
    have w54918 : 0 ≤ e_at.toInt := by first | omega | assumption | rfl | (intros; rfl)
    have w54919 : e_at.toInt ≤ 1600 := by first | omega | assumption | rfl | (intros; rfl)
    have w54920 : 0 ≤ e_kind.toInt := by first | omega | assumption | rfl | (intros; rfl)
    have w54921 : e_kind.toInt ≤ 5 := by first | omega | assumption | rfl | (intros; rfl)
    have w54922 : 0 ≤ e_start.toInt := by first | omega | assumption | rfl | (intros; rfl)
    have w54923 : e_start.toInt ≤ 1600 := by first | omega | assumption | rfl | (intros; rfl)
    have w54924 : 0 ≤ p_mC.toInt := by first | omega | assumption | rfl | (intros; rfl)
    have w54925 : p_mC.toInt ≤ 6 := by first | omega | assumption | rfl | (intros; rfl)
    have w54926 : 0 ≤ p_nC.toInt := by first | omega | assumption | rfl | (intros; rfl)
    have w54927 : p_nC.toInt ≤ 8 := by first | omega | assumption | rfl | (intros; rfl)
    have w54928 : 0 ≤ p_kC.toInt := by first | omega | assumption | rfl | (intros; rfl)
    have w54929 : p_kC.toInt ≤ 4 := by first | omega | assumption | rfl | (intros; rfl)
    have w54930 : PI p_mC p_nC p_members := by assumption
    have w54931 : (u54916.2.1 0).toInt = 0 → e_faultKind.toInt = 0 := by first | omega | assumption | rfl | (intros; rfl)
    exact W.vret hx hb hr (fun t ht hW => ⟨⟨((fun _ => p_members), (fun k => match k with | 0 => e_at | 1 => e_kind | 2 => e_start | 3 => e_number | 4 => u54916.2.1 0 | 5 => u54916.2.1 1 | 6 => p_mC | 7 => p_nC | _ => p_kC), (fun _ => e_name), (fun k => match k with | 0 => p_nN | _ => p_kN)), rfl, ⟨w54918, w54919, w54920, w54921, w54922, w54923, i0_p_members, w54924, w54925, w54926, w54927, w54928, w54929, w54930, w54931⟩, cE.of ht hP hD [5, 0, 1, 2, 3, 4] (by decide) rfl⟩, hS.F ht⟩) hS.2.2 dX2_readName_13
def wo_k_Re_checkNumber : List Cond := [.fieldLink RX2 62 "ReplicaChain$Reader" "number" "I", .methodLink RX2 69 yX2_refuse, .instanceMethod yX2_refuse, .selects RX2 yX2_refuse yX2_refuse, .initialized RX2, .methodLink RX2 46 yX2_advance, .instanceMethod yX2_advance, .selects RX2 yX2_advance yX2_advance]
def wq_k_Re_checkNumber : List Cond := .code yX2_checkNumber cX2_checkNumber 3 none :: (wo_k_Re_checkNumber ++ (wq_k_Re_refuse ++ (wq_k_Re_advance ++ (wsX20 ++ []))))
theorem gd_k_Re_checkNumber : Gd wq_k_Re_checkNumber := gd_c (gd_a (gd_o (by decide +kernel)) (gd_a gd_k_Re_refuse (gd_a gd_k_Re_advance (gd_a gd_u gd_0))))
abbrev wc_k_Re_checkNumber (cyB cyI cyJ cyZ cyO : ClassId) (hR : Nat) (ed : Nat → Nat) (e_text : Nat → Int32) (e_length : Int32) (e_at : Int32) (e_kind : Int32) (e_start : Int32) (e_number : Int32) (e_told : Int32) (e_faultKind : Int32) (e_faultPlace : Int32) (e_name : Int64) (x1 : Int32) (x2 : Int32) (hp : Nat) : va_W := [(hR, .inr (2, [.ref (ed 0), .int e_length, .int e_at, .ref hp, .int e_kind, .int e_start, .int e_number, .long e_name, .int e_told, .int e_faultKind, .int e_faultPlace])), (ed 0, .inl (cyB, 1600, .inl e_text))]
set_option maxHeartbeats 4000000 in
set_option maxRecDepth 100000 in
theorem k_Re_checkNumber (l : Launch) (dC : Nat → ClassId) (dI : Nat → Nat → Nat) (cyB cyI cyJ cyZ cyO : ClassId) (adK adV : Nat → Nat) (hR : Nat) (ed : Nat → Nat) (e_text : Nat → Int32) (e_length : Int32) (e_at : Int32) (e_kind : Int32) (e_start : Int32) (e_number : Int32) (e_told : Int32) (e_faultKind : Int32) (e_faultPlace : Int32) (e_name : Int64) (x1 : Int32) (x2 : Int32) (hp : Nat) (sz : Nat) (l_e_length : 0 ≤ e_length.toInt) (u_e_length : e_length.toInt ≤ 1600) (l_e_at : 0 ≤ e_at.toInt) (u_e_at : e_at.toInt ≤ 1600) (l_e_kind : 0 ≤ e_kind.toInt) (u_e_kind : e_kind.toInt ≤ 5) (l_e_start : 0 ≤ e_start.toInt) (u_e_start : e_start.toInt ≤ 1600) : Met l yX2_checkNumber wq_k_Re_checkNumber ({ frames := 7, cells := 0, slots := 0, locals := 149 }) (va_Pc [.ref hR, .int x1, .int x2] (cBZ (dC, dI) (kT cyB cyI cyJ cyZ cyO) adK adV (wc_k_Re_checkNumber cyB cyI cyJ cyZ cyO hR ed e_text e_length e_at e_kind e_start e_number e_told e_faultKind e_faultPlace e_name x1 x2 hp) sz)) (va_Qv (fun (u : ST4) => (0 ≤ (u.2.1 0).toInt) ∧ ((u.2.1 0).toInt ≤ 1600) ∧ (0 ≤ (u.2.1 1).toInt) ∧ ((u.2.1 1).toInt ≤ 5) ∧ (0 ≤ (u.2.1 2).toInt) ∧ ((u.2.1 2).toInt ≤ 1600) ∧ ((u.2.1 4).toInt = 0 → e_faultKind.toInt = 0) ∧ ((u.2.1 4).toInt = 0 → x1.toInt ≤ e_number.toInt ∧ e_number.toInt ≤ x2.toInt)) (fun (u : ST4) t => cE (dC, dI) (va_A (wc_k_Re_checkNumber cyB cyI cyJ cyZ cyO hR ed e_text e_length e_at e_kind e_start e_number e_told e_faultKind e_faultPlace e_name x1 x2 hp) sz) ([(hR, .inr (2, [.ref (ed 0), .int e_length, .int (u.2.1 0), .ref hp, .int (u.2.1 1), .int (u.2.1 2), .int (u.2.1 3), .long (u.2.2.1 0), .int e_told, .int (u.2.1 4), .int (u.2.1 5)])), (ed 0, .inl (cyB, 1600, .inl e_text))]) t.heap) (va_A (wc_k_Re_checkNumber cyB cyI cyJ cyZ cyO hR ed e_text e_length e_at e_kind e_start e_number e_told e_faultKind e_faultPlace e_name x1 x2 hp) sz)) 0 0 (va_A (wc_k_Re_checkNumber cyB cyI cyJ cyZ cyO hR ed e_text e_length e_at e_kind e_start e_number e_told e_faultKind e_faultPlace e_name x1 x2 hp) sz) := by
  refine Met.ofW (cc := cX2_checkNumber) (maxL := 3) (ret := none) (by decide) rfl ?_
  intro p e s m args below meth c s₁ B hml hv
  obtain ⟨rfl, ⟨hsz, hP, hKN, hD0⟩, hZ⟩ := hv
  have hx := B.exec
  have hb := B.bytes
  have hr := B.returns
  have hts := atoms_spec (ws := wq_k_Re_checkNumber) B.pre
  have hown : s.vm.findClass RX2 = some m.cls := findClass_of_methodNamed B.named
  have hlocks := B.notSynchronized
  have hK := hKN.1
  have hfix : CallFix p m c cX2_checkNumber 3 s [.ref hR, .int x1, .int x2].toArray wq_k_Re_checkNumber RX2 := ⟨hx, hb, hml, hown, hts⟩
  have hi2 : ∀ w ∈ wsX20, w ∈ wq_k_Re_checkNumber := (sb_c (sb_r (sb_r sb_l)))
  subst hsz
  have hD := hD0.self (sz := s.heap.size)
  generalize hAe : va_A (wc_k_Re_checkNumber cyB cyI cyJ cyZ cyO hR ed e_text e_length e_at e_kind e_start e_number e_told e_faultKind e_faultPlace e_name x1 x2 hp) s.heap.size = A at hD hZ ⊢
  have hA : ∀ q : Nat, s.heap.size ≤ q → A q := fun q h => by rw [← hAe]; exact Or.inr h
  have hS : va_S A s.heap s.heap [] := va_S.rf
  have hl := lv_entry ([.ref hR, .int x1, .int x2]) (n := 3) (Nat.le_of_ble_eq_true rfl)
  rw [lg_entry_eq]
  generalize (lg_sl ([.ref hR, .int x1, .int x2]) ++ List.replicate (3 - (lg_sl ([.ref hR, .int x1, .int x2])).length) Slot.unset).toArray = ls at hl ⊢
  have hl : lv_has ls 3 [(0, .ref hR), (1, .int x1), (2, .int x2)] := hl
  have ck4 : (4 : Int32).toInt = 4 := by decide
  refine lv_aload_n hx hb dX2_checkNumber_0 rfl (lv_at hl 0 rfl) ?_
  refine va_get (D := (dC, dI)) (ci := 2) (v := .int e_number) (C := RX2) (T := TX2) (N := 11) hx hb hts hi2 hown hK hP 0 rfl rfl 6 (by decide) (hts _ (ow_m (k := 0) rfl)) (fun _ h9 => h9) rfl dX2_checkNumber_1 ?_
  refine lv_iload_n hx hb dX2_checkNumber_4 rfl (lv_at hl 1 rfl) ?_
  refine lv_icmp_lt (tgt := 16) hx hb dX2_checkNumber_5 (by decide) (fun c54964 => ?_) (fun c54964 => ?_)
  · have c54964 := i_lt (a := e_number.toInt) (b := x1.toInt) c54964 rfl rfl
    refine lv_aload_n hx hb dX2_checkNumber_16 rfl (lv_at hl 0 rfl) ?_
    refine lv_iconst (v := 4) hx hb dX2_checkNumber_17 (by decide) ?_
    refine gf_v (wr := [(ed 0, .inl (cyB, 1600, .inl e_text))]) (va_runV (As := [.int 4]) (rest := []) hfix (k_Re_refuse l dC dI cyB cyI cyJ cyZ cyO hR ed e_length e_at e_kind e_start e_number e_told e_faultKind e_faultPlace e_name (4 : Int32) hp _ (by first | omega | assumption) (by first | omega | assumption) (by first | omega | assumption) (by first | omega | assumption) (by first | omega | assumption) (by first | omega | assumption) (by first | omega | assumption) (by first | omega | assumption) (by first | omega | assumption) (by first | omega | assumption)) (cwV 1 hts (gi_V (ow_m (k := 1) rfl) (ow_m (k := 2) rfl) (ow_m (k := 3) rfl) (ow_m (k := 4) rfl) (sb_c sb_l) gd_k_Re_refuse) rfl rfl rfl (by decide +kernel) ⟨Nat.le_of_ble_eq_true rfl, Nat.le_of_ble_eq_true rfl⟩) (g_preV hKN hP hD [0] rfl (by decide) 0 2 rfl rfl) rfl rfl hl.1 rfl (lv_room (Nat.le_of_ble_eq_true rfl)) dX2_checkNumber_18 ⟨Nat.le_of_ble_eq_true rfl, Nat.le_of_ble_eq_true rfl⟩) hP hD hS hA [0] [1] rfl rfl (by decide) (by decide) (fun u54966 H locs qu54966 hP hD hS => ?_)
    have b54967 := qu54966
    have hP : va_P (dC, dI) vwCl [(ed 0, .inl (cyB, 1600, .inl e_text)), (hR, .inr (2, [.ref (ed 0), .int e_length, .int e_at, .ref hp, .int e_kind, .int e_start, .int e_number, .long e_name, .int e_told, .int (u54966.2.1 0), .int (u54966.2.1 1)]))] H := hP
    have hD : va_D A [(ed 0, .inl (cyB, 1600, .inl e_text)), (hR, .inr (2, [.ref (ed 0), .int e_length, .int e_at, .ref hp, .int e_kind, .int e_start, .int e_number, .long e_name, .int e_told, .int (u54966.2.1 0), .int (u54966.2.1 1)]))] := hD
    refine lv_goto (tgt := 28) hx hb dX2_checkNumber_21 (by decide) ?_
    have w54968 : 0 ≤ e_at.toInt := by first | omega | assumption | rfl | (intros; rfl)
    have w54969 : e_at.toInt ≤ 1600 := by first | omega | assumption | rfl | (intros; rfl)
    have w54970 : 0 ≤ e_kind.toInt := by first | omega | assumption | rfl | (intros; rfl)
    have w54971 : e_kind.toInt ≤ 5 := by first | omega | assumption | rfl | (intros; rfl)
    have w54972 : 0 ≤ e_start.toInt := by first | omega | assumption | rfl | (intros; rfl)
    have w54973 : e_start.toInt ≤ 1600 := by first | omega | assumption | rfl | (intros; rfl)
    have w54974 : (u54966.2.1 0).toInt = 0 → e_faultKind.toInt = 0 := by first | omega | assumption | rfl | (intros; rfl)
    have w54975 : (u54966.2.1 0).toInt = 0 → x1.toInt ≤ e_number.toInt ∧ e_number.toInt ≤ x2.toInt := by first | omega | assumption | rfl | (intros; rfl)
    exact W.vret hx hb hr (fun t ht hW => ⟨⟨((fun _ => fun _ => 0), (fun k => match k with | 0 => e_at | 1 => e_kind | 2 => e_start | 3 => e_number | 4 => u54966.2.1 0 | _ => u54966.2.1 1), (fun _ => e_name), (fun _ => fun _ => 0)), rfl, ⟨w54968, w54969, w54970, w54971, w54972, w54973, w54974, w54975⟩, cE.of ht hP hD [1, 0] (by decide) rfl⟩, hS.F ht⟩) hS.2.2 dX2_checkNumber_28
  · have c54964 := i_nlt (a := e_number.toInt) (b := x1.toInt) c54964 rfl rfl
    refine lv_aload_n hx hb dX2_checkNumber_8 rfl (lv_at hl 0 rfl) ?_
    refine va_get (D := (dC, dI)) (ci := 2) (v := .int e_number) (C := RX2) (T := TX2) (N := 11) hx hb hts hi2 hown hK hP 0 rfl rfl 6 (by decide) (hts _ (ow_m (k := 0) rfl)) (fun _ h9 => h9) rfl dX2_checkNumber_9 ?_
    refine lv_iload_n hx hb dX2_checkNumber_12 rfl (lv_at hl 2 rfl) ?_
    refine lv_icmp_le (tgt := 24) hx hb dX2_checkNumber_13 (by decide) (fun c54976 => ?_) (fun c54976 => ?_)
    · have c54976 := i_le (a := e_number.toInt) (b := x2.toInt) c54976 rfl rfl
      refine lv_aload_n hx hb dX2_checkNumber_24 rfl (lv_at hl 0 rfl) ?_
      refine gf_v (wr := []) (va_runV (As := []) (rest := []) hfix (k_Re_advance l dC dI cyB cyI cyJ cyZ cyO adK adV hR ed e_text e_length e_at e_kind e_start e_number e_told e_faultKind e_faultPlace e_name hp _ (by first | omega | assumption) (by first | omega | assumption) (by first | omega | assumption) (by first | omega | assumption) (by first | omega | assumption) (by first | omega | assumption) (by first | omega | assumption) (by first | omega | assumption)) (cwV 0 hts (gi_V (ow_m (k := 5) rfl) (ow_m (k := 6) rfl) (ow_m (k := 7) rfl) (ow_m (k := 4) rfl) (sb_c (sb_r sb_l)) gd_k_Re_advance) rfl rfl rfl (by decide +kernel) ⟨Nat.le_of_ble_eq_true rfl, Nat.le_of_ble_eq_true rfl⟩) (g_preVZ hZ hS hA hKN hP hD [0, 1] rfl (by decide) 0 2 rfl rfl) rfl rfl hl.1 rfl (lv_room (Nat.le_of_ble_eq_true rfl)) dX2_checkNumber_25 ⟨Nat.le_of_ble_eq_true rfl, Nat.le_of_ble_eq_true rfl⟩) hP hD hS hA [0, 1] [] rfl rfl (by decide) (by decide) (fun u54978 H locs qu54978 hP hD hS => ?_)
      obtain ⟨b54979, b54980, b54981, b54982, b54983, b54984⟩ := qu54978
      have hP : va_P (dC, dI) vwCl [(hR, .inr (2, [.ref (ed 0), .int e_length, .int (u54978.2.1 0), .ref hp, .int (u54978.2.1 1), .int (u54978.2.1 2), .int (u54978.2.1 3), .long (u54978.2.2.1 0), .int e_told, .int e_faultKind, .int e_faultPlace])), (ed 0, .inl (cyB, 1600, .inl e_text))] H := hP
      have hD : va_D A [(hR, .inr (2, [.ref (ed 0), .int e_length, .int (u54978.2.1 0), .ref hp, .int (u54978.2.1 1), .int (u54978.2.1 2), .int (u54978.2.1 3), .long (u54978.2.2.1 0), .int e_told, .int e_faultKind, .int e_faultPlace])), (ed 0, .inl (cyB, 1600, .inl e_text))] := hD
      have w54985 : 0 ≤ (u54978.2.1 0).toInt := by first | omega | assumption | rfl | (intros; rfl)
      have w54986 : (u54978.2.1 0).toInt ≤ 1600 := by first | omega | assumption | rfl | (intros; rfl)
      have w54987 : 0 ≤ (u54978.2.1 1).toInt := by first | omega | assumption | rfl | (intros; rfl)
      have w54988 : (u54978.2.1 1).toInt ≤ 5 := by first | omega | assumption | rfl | (intros; rfl)
      have w54989 : 0 ≤ (u54978.2.1 2).toInt := by first | omega | assumption | rfl | (intros; rfl)
      have w54990 : (u54978.2.1 2).toInt ≤ 1600 := by first | omega | assumption | rfl | (intros; rfl)
      have w54991 : e_faultKind.toInt = 0 → e_faultKind.toInt = 0 := by first | omega | assumption | rfl | (intros; rfl)
      have w54992 : e_faultKind.toInt = 0 → x1.toInt ≤ e_number.toInt ∧ e_number.toInt ≤ x2.toInt := by first | omega | assumption | rfl | (intros; rfl)
      exact W.vret hx hb hr (fun t ht hW => ⟨⟨((fun _ => fun _ => 0), (fun k => match k with | 0 => u54978.2.1 0 | 1 => u54978.2.1 1 | 2 => u54978.2.1 2 | 3 => u54978.2.1 3 | 4 => e_faultKind | _ => e_faultPlace), (fun _ => u54978.2.2.1 0), (fun _ => fun _ => 0)), rfl, ⟨w54985, w54986, w54987, w54988, w54989, w54990, w54991, w54992⟩, cE.of ht hP hD [0, 1] (by decide) rfl⟩, hS.F ht⟩) hS.2.2 dX2_checkNumber_28
    · have c54976 := i_nle (a := e_number.toInt) (b := x2.toInt) c54976 rfl rfl
      refine lv_aload_n hx hb dX2_checkNumber_16 rfl (lv_at hl 0 rfl) ?_
      refine lv_iconst (v := 4) hx hb dX2_checkNumber_17 (by decide) ?_
      refine gf_v (wr := [(ed 0, .inl (cyB, 1600, .inl e_text))]) (va_runV (As := [.int 4]) (rest := []) hfix (k_Re_refuse l dC dI cyB cyI cyJ cyZ cyO hR ed e_length e_at e_kind e_start e_number e_told e_faultKind e_faultPlace e_name (4 : Int32) hp _ (by first | omega | assumption) (by first | omega | assumption) (by first | omega | assumption) (by first | omega | assumption) (by first | omega | assumption) (by first | omega | assumption) (by first | omega | assumption) (by first | omega | assumption) (by first | omega | assumption) (by first | omega | assumption)) (cwV 1 hts (gi_V (ow_m (k := 1) rfl) (ow_m (k := 2) rfl) (ow_m (k := 3) rfl) (ow_m (k := 4) rfl) (sb_c sb_l) gd_k_Re_refuse) rfl rfl rfl (by decide +kernel) ⟨Nat.le_of_ble_eq_true rfl, Nat.le_of_ble_eq_true rfl⟩) (g_preV hKN hP hD [0] rfl (by decide) 0 2 rfl rfl) rfl rfl hl.1 rfl (lv_room (Nat.le_of_ble_eq_true rfl)) dX2_checkNumber_18 ⟨Nat.le_of_ble_eq_true rfl, Nat.le_of_ble_eq_true rfl⟩) hP hD hS hA [0] [1] rfl rfl (by decide) (by decide) (fun u54994 H locs qu54994 hP hD hS => ?_)
      have b54995 := qu54994
      have hP : va_P (dC, dI) vwCl [(ed 0, .inl (cyB, 1600, .inl e_text)), (hR, .inr (2, [.ref (ed 0), .int e_length, .int e_at, .ref hp, .int e_kind, .int e_start, .int e_number, .long e_name, .int e_told, .int (u54994.2.1 0), .int (u54994.2.1 1)]))] H := hP
      have hD : va_D A [(ed 0, .inl (cyB, 1600, .inl e_text)), (hR, .inr (2, [.ref (ed 0), .int e_length, .int e_at, .ref hp, .int e_kind, .int e_start, .int e_number, .long e_name, .int e_told, .int (u54994.2.1 0), .int (u54994.2.1 1)]))] := hD
      refine lv_goto (tgt := 28) hx hb dX2_checkNumber_21 (by decide) ?_
      have w54996 : 0 ≤ e_at.toInt := by first | omega | assumption | rfl | (intros; rfl)
      have w54997 : e_at.toInt ≤ 1600 := by first | omega | assumption | rfl | (intros; rfl)
      have w54998 : 0 ≤ e_kind.toInt := by first | omega | assumption | rfl | (intros; rfl)
      have w54999 : e_kind.toInt ≤ 5 := by first | omega | assumption | rfl | (intros; rfl)
      have w55000 : 0 ≤ e_start.toInt := by first | omega | assumption | rfl | (intros; rfl)
      have w55001 : e_start.toInt ≤ 1600 := by first | omega | assumption | rfl | (intros; rfl)
      have w55002 : (u54994.2.1 0).toInt = 0 → e_faultKind.toInt = 0 := by first | omega | assumption | rfl | (intros; rfl)
      have w55003 : (u54994.2.1 0).toInt = 0 → x1.toInt ≤ e_number.toInt ∧ e_number.toInt ≤ x2.toInt := by first | omega | assumption | rfl | (intros; rfl)
      exact W.vret hx hb hr (fun t ht hW => ⟨⟨((fun _ => fun _ => 0), (fun k => match k with | 0 => e_at | 1 => e_kind | 2 => e_start | 3 => e_number | 4 => u54994.2.1 0 | _ => u54994.2.1 1), (fun _ => e_name), (fun _ => fun _ => 0)), rfl, ⟨w54996, w54997, w54998, w54999, w55000, w55001, w55002, w55003⟩, cE.of ht hP hD [1, 0] (by decide) rfl⟩, hS.F ht⟩) hS.2.2 dX2_checkNumber_28
def wo_k_Re_readSetting : List Cond := [.fieldLink RX2 53 "ReplicaChain$Reader" "kind" "I", .fieldLink RX2 19 "ReplicaChain$Reader" "plan" "LReplicaChain$Plan;", .fieldLink RX2 62 "ReplicaChain$Reader" "number" "I", .fieldLink RX2 124 "ReplicaChain$Plan" "draw" "I", .methodLink RX2 117 yX2_checkNumber, .instanceMethod yX2_checkNumber, .selects RX2 yX2_checkNumber yX2_checkNumber, .initialized RX2, .fieldLink RX2 121 "ReplicaChain$Plan" "loss" "I", .fieldLink RX2 114 "ReplicaChain$Plan" "copy" "I", .methodLink RX2 69 yX2_refuse, .instanceMethod yX2_refuse, .selects RX2 yX2_refuse yX2_refuse]
def wq_k_Re_readSetting : List Cond := .code yX2_readSetting cX2_readSetting 2 none :: (wo_k_Re_readSetting ++ (wq_k_Re_checkNumber ++ (wq_k_Re_refuse ++ (wsX10 ++ (wsX20 ++ [])))))
theorem gd_k_Re_readSetting : Gd wq_k_Re_readSetting := gd_c (gd_a (gd_o (by decide +kernel)) (gd_a gd_k_Re_checkNumber (gd_a gd_k_Re_refuse (gd_a gd_u (gd_a gd_u gd_0)))))
abbrev wc_k_Re_readSetting (cyB cyI cyJ cyZ cyO : ClassId) (hR : Nat) (ed : Nat → Nat) (e_text : Nat → Int32) (e_length : Int32) (e_at : Int32) (e_kind : Int32) (e_start : Int32) (e_number : Int32) (e_told : Int32) (e_faultKind : Int32) (e_faultPlace : Int32) (e_name : Int64) (hp : Nat) (pd : Nat → Nat) (p_mC : Int32) (p_nC : Int32) (p_kC : Int32) (p_units : Int32) (p_copy : Int32) (p_loss : Int32) (p_draw : Int32) (x1 : Int32) (hf : Nat) : va_W := [(hR, .inr (2, [.ref (ed 0), .int e_length, .int e_at, .ref hp, .int e_kind, .int e_start, .int e_number, .long e_name, .int e_told, .int e_faultKind, .int e_faultPlace])), (ed 0, .inl (cyB, 1600, .inl e_text)), (hp, .inr (1, [.ref (pd 0), .ref (pd 1), .ref (pd 2), .ref hf, .int p_mC, .int p_nC, .int p_kC, .int p_units, .int p_copy, .int p_loss, .int p_draw]))]
set_option maxHeartbeats 4000000 in
set_option maxRecDepth 100000 in
theorem k_Re_readSetting (l : Launch) (dC : Nat → ClassId) (dI : Nat → Nat → Nat) (cyB cyI cyJ cyZ cyO : ClassId) (adK adV : Nat → Nat) (hR : Nat) (ed : Nat → Nat) (e_text : Nat → Int32) (e_length : Int32) (e_at : Int32) (e_kind : Int32) (e_start : Int32) (e_number : Int32) (e_told : Int32) (e_faultKind : Int32) (e_faultPlace : Int32) (e_name : Int64) (hp : Nat) (pd : Nat → Nat) (p_mC : Int32) (p_nC : Int32) (p_kC : Int32) (p_units : Int32) (p_copy : Int32) (p_loss : Int32) (p_draw : Int32) (x1 : Int32) (hf : Nat) (sz : Nat) (l_e_length : 0 ≤ e_length.toInt) (u_e_length : e_length.toInt ≤ 1600) (l_e_at : 0 ≤ e_at.toInt) (u_e_at : e_at.toInt ≤ 1600) (l_e_kind : 0 ≤ e_kind.toInt) (u_e_kind : e_kind.toInt ≤ 5) (l_e_start : 0 ≤ e_start.toInt) (u_e_start : e_start.toInt ≤ 1600) (l_p_mC : 0 ≤ p_mC.toInt) (u_p_mC : p_mC.toInt ≤ 6) (l_p_nC : 0 ≤ p_nC.toInt) (u_p_nC : p_nC.toInt ≤ 8) (l_p_kC : 0 ≤ p_kC.toInt) (u_p_kC : p_kC.toInt ≤ 4) : Met l yX2_readSetting wq_k_Re_readSetting ({ frames := 8, cells := 0, slots := 0, locals := 171 }) (va_Pc [.ref hR, .int x1] (cBZ (dC, dI) (kT cyB cyI cyJ cyZ cyO) adK adV (wc_k_Re_readSetting cyB cyI cyJ cyZ cyO hR ed e_text e_length e_at e_kind e_start e_number e_told e_faultKind e_faultPlace e_name hp pd p_mC p_nC p_kC p_units p_copy p_loss p_draw x1 hf) sz)) (va_Qv (fun (u : ST4) => (0 ≤ (u.2.1 0).toInt) ∧ ((u.2.1 0).toInt ≤ 1600) ∧ (0 ≤ (u.2.1 1).toInt) ∧ ((u.2.1 1).toInt ≤ 5) ∧ (0 ≤ (u.2.1 2).toInt) ∧ ((u.2.1 2).toInt ≤ 1600) ∧ ((u.2.1 4).toInt = 0 → e_faultKind.toInt = 0) ∧ ((u.2.1 4).toInt = 0 → (0 ≤ p_draw.toInt ∧ p_draw.toInt ≤ 999) → 0 ≤ (u.2.1 8).toInt ∧ (u.2.1 8).toInt ≤ 999)) (fun (u : ST4) t => cE (dC, dI) (va_A (wc_k_Re_readSetting cyB cyI cyJ cyZ cyO hR ed e_text e_length e_at e_kind e_start e_number e_told e_faultKind e_faultPlace e_name hp pd p_mC p_nC p_kC p_units p_copy p_loss p_draw x1 hf) sz) ([(hR, .inr (2, [.ref (ed 0), .int e_length, .int (u.2.1 0), .ref hp, .int (u.2.1 1), .int (u.2.1 2), .int (u.2.1 3), .long (u.2.2.1 0), .int e_told, .int (u.2.1 4), .int (u.2.1 5)])), (ed 0, .inl (cyB, 1600, .inl e_text)), (hp, .inr (1, [.ref (pd 0), .ref (pd 1), .ref (pd 2), .ref hf, .int p_mC, .int p_nC, .int p_kC, .int p_units, .int (u.2.1 6), .int (u.2.1 7), .int (u.2.1 8)]))]) t.heap) (va_A (wc_k_Re_readSetting cyB cyI cyJ cyZ cyO hR ed e_text e_length e_at e_kind e_start e_number e_told e_faultKind e_faultPlace e_name hp pd p_mC p_nC p_kC p_units p_copy p_loss p_draw x1 hf) sz)) 0 0 (va_A (wc_k_Re_readSetting cyB cyI cyJ cyZ cyO hR ed e_text e_length e_at e_kind e_start e_number e_told e_faultKind e_faultPlace e_name hp pd p_mC p_nC p_kC p_units p_copy p_loss p_draw x1 hf) sz) := by
  refine Met.ofW (cc := cX2_readSetting) (maxL := 2) (ret := none) (by decide) rfl ?_
  intro p e s m args below meth c s₁ B hml hv
  obtain ⟨rfl, ⟨hsz, hP, hKN, hD0⟩, hZ⟩ := hv
  have hx := B.exec
  have hb := B.bytes
  have hr := B.returns
  have hts := atoms_spec (ws := wq_k_Re_readSetting) B.pre
  have hown : s.vm.findClass RX2 = some m.cls := findClass_of_methodNamed B.named
  have hlocks := B.notSynchronized
  have hK := hKN.1
  have hfix : CallFix p m c cX2_readSetting 2 s [.ref hR, .int x1].toArray wq_k_Re_readSetting RX2 := ⟨hx, hb, hml, hown, hts⟩
  have hi1 : ∀ w ∈ wsX10, w ∈ wq_k_Re_readSetting := (sb_c (sb_r (sb_r sb_l)))
  have hi2 : ∀ w ∈ wsX20, w ∈ wq_k_Re_readSetting := (sb_c (sb_r (sb_r (sb_r sb_l))))
  subst hsz
  have hD := hD0.self (sz := s.heap.size)
  generalize hAe : va_A (wc_k_Re_readSetting cyB cyI cyJ cyZ cyO hR ed e_text e_length e_at e_kind e_start e_number e_told e_faultKind e_faultPlace e_name hp pd p_mC p_nC p_kC p_units p_copy p_loss p_draw x1 hf) s.heap.size = A at hD hZ ⊢
  have hA : ∀ q : Nat, s.heap.size ≤ q → A q := fun q h => by rw [← hAe]; exact Or.inr h
  have hS : va_S A s.heap s.heap [] := va_S.rf
  have hl := lv_entry ([.ref hR, .int x1]) (n := 2) (Nat.le_of_ble_eq_true rfl)
  rw [lg_entry_eq]
  generalize (lg_sl ([.ref hR, .int x1]) ++ List.replicate (2 - (lg_sl ([.ref hR, .int x1])).length) Slot.unset).toArray = ls at hl ⊢
  have hl : lv_has ls 2 [(0, .ref hR), (1, .int x1)] := hl
  have ck0 : (0 : Int32).toInt = 0 := by decide
  have ck1 : (1 : Int32).toInt = 1 := by decide
  have ck2 : (2 : Int32).toInt = 2 := by decide
  have ck9 : (9 : Int32).toInt = 9 := by decide
  have ck100 : (100 : Int32).toInt = 100 := by decide
  have ck999 : (999 : Int32).toInt = 999 := by decide
  refine lv_aload_n hx hb dX2_readSetting_0 rfl (lv_at hl 0 rfl) ?_
  refine va_get (D := (dC, dI)) (ci := 2) (v := .int e_kind) (C := RX2) (T := TX2) (N := 11) hx hb hts hi2 hown hK hP 0 rfl rfl 4 (by decide) (hts _ (ow_m (k := 0) rfl)) (fun _ h9 => h9) rfl dX2_readSetting_1 ?_
  refine lv_iconst (v := 3) hx hb dX2_readSetting_4 (by decide) ?_
  refine lv_icmp_eq (tgt := 16) hx hb dX2_readSetting_5 (by decide) (fun c55076 => ?_) (fun c55076 => ?_)
  · have c55076 := i_eq (a := e_kind.toInt) (b := 3) c55076 rfl (by decide)
    refine lv_iload_n hx hb dX2_readSetting_16 rfl (lv_at hl 1 rfl) ?_
    refine lv_iconst (v := 4) hx hb dX2_readSetting_17 (by decide) ?_
    refine lv_icmp_ne (tgt := 42) hx hb dX2_readSetting_18 (by decide) (fun c55077 => ?_) (fun c55077 => ?_)
    · have c55077 := i_ne (a := x1.toInt) (b := 4) c55077 rfl (by decide)
      refine lv_iload_n hx hb dX2_readSetting_42 rfl (lv_at hl 1 rfl) ?_
      refine lv_iconst (v := 5) hx hb dX2_readSetting_43 (by decide) ?_
      refine lv_icmp_ne (tgt := 68) hx hb dX2_readSetting_44 (by decide) (fun c55078 => ?_) (fun c55078 => ?_)
      · have c55078 := i_ne (a := x1.toInt) (b := 5) c55078 rfl (by decide)
        refine lv_aload_n hx hb dX2_readSetting_68 rfl (lv_at hl 0 rfl) ?_
        refine va_get (D := (dC, dI)) (ci := 2) (v := .ref hp) (C := RX2) (T := TX2) (N := 11) hx hb hts hi2 hown hK hP 0 rfl rfl 3 (by decide) (hts _ (ow_m (k := 1) rfl)) (fun _ h9 => h9) rfl dX2_readSetting_69 ?_
        refine lv_aload_n hx hb dX2_readSetting_72 rfl (lv_at hl 0 rfl) ?_
        refine va_get (D := (dC, dI)) (ci := 2) (v := .int e_number) (C := RX2) (T := TX2) (N := 11) hx hb hts hi2 hown hK hP 0 rfl rfl 6 (by decide) (hts _ (ow_m (k := 2) rfl)) (fun _ h9 => h9) rfl dX2_readSetting_73 ?_
        refine va_put (D := (dC, dI)) (ci := 1) (v := .int e_number) (ty := .int) (C := RX1) (T := TX1) (N := 11) hx hb hts hi1 tyX1 tyX1_ok nmX1 hown hK hP hD hS 2 rfl rfl 10 (by decide) (hts _ (ow_m (k := 3) rfl)) (fun _ h9 => h9) rfl (by decide +kernel) rfl rfl (Nat.le_of_ble_eq_true rfl) dX2_readSetting_76 (fun H locs hP hD hS => ?_)
        have hP : va_P (dC, dI) vwCl [(hR, .inr (2, [.ref (ed 0), .int e_length, .int e_at, .ref hp, .int e_kind, .int e_start, .int e_number, .long e_name, .int e_told, .int e_faultKind, .int e_faultPlace])), (ed 0, .inl (cyB, 1600, .inl e_text)), (hp, .inr (1, [.ref (pd 0), .ref (pd 1), .ref (pd 2), .ref hf, .int p_mC, .int p_nC, .int p_kC, .int p_units, .int p_copy, .int p_loss, .int e_number]))] H := hP
        have hD : va_D A [(hR, .inr (2, [.ref (ed 0), .int e_length, .int e_at, .ref hp, .int e_kind, .int e_start, .int e_number, .long e_name, .int e_told, .int e_faultKind, .int e_faultPlace])), (ed 0, .inl (cyB, 1600, .inl e_text)), (hp, .inr (1, [.ref (pd 0), .ref (pd 1), .ref (pd 2), .ref hf, .int p_mC, .int p_nC, .int p_kC, .int p_units, .int p_copy, .int p_loss, .int e_number]))] := hD
        refine lv_aload_n hx hb dX2_readSetting_79 rfl (lv_at hl 0 rfl) ?_
        refine lv_iconst (v := 0) hx hb dX2_readSetting_80 (by decide) ?_
        refine lv_sipush (v := 999) hx hb dX2_readSetting_81 (by decide) ?_
        refine gf_v (wr := [(hp, .inr (1, [.ref (pd 0), .ref (pd 1), .ref (pd 2), .ref hf, .int p_mC, .int p_nC, .int p_kC, .int p_units, .int p_copy, .int p_loss, .int e_number]))]) (va_runV (As := [.int 0, .int 999]) (rest := []) hfix (k_Re_checkNumber l dC dI cyB cyI cyJ cyZ cyO adK adV hR ed e_text e_length e_at e_kind e_start e_number e_told e_faultKind e_faultPlace e_name (0 : Int32) (999 : Int32) hp _ (by first | omega | assumption) (by first | omega | assumption) (by first | omega | assumption) (by first | omega | assumption) (by first | omega | assumption) (by first | omega | assumption) (by first | omega | assumption) (by first | omega | assumption)) (cwV 2 hts (gi_V (ow_m (k := 4) rfl) (ow_m (k := 5) rfl) (ow_m (k := 6) rfl) (ow_m (k := 7) rfl) (sb_c sb_l) gd_k_Re_checkNumber) rfl rfl rfl (by decide +kernel) ⟨Nat.le_of_ble_eq_true rfl, Nat.le_of_ble_eq_true rfl⟩) (g_preVZ hZ hS hA hKN hP hD [0, 1] rfl (by decide) 0 2 rfl rfl) rfl rfl hl.1 rfl (lv_room (Nat.le_of_ble_eq_true rfl)) dX2_readSetting_84 ⟨Nat.le_of_ble_eq_true rfl, Nat.le_of_ble_eq_true rfl⟩) hP hD hS hA [0, 1] [2] rfl rfl (by decide) (by decide) (fun u55080 H locs qu55080 hP hD hS => ?_)
        obtain ⟨b55081, b55082, b55083, b55084, b55085, b55086, b55087, b55088⟩ := qu55080
        have hP : va_P (dC, dI) vwCl [(hp, .inr (1, [.ref (pd 0), .ref (pd 1), .ref (pd 2), .ref hf, .int p_mC, .int p_nC, .int p_kC, .int p_units, .int p_copy, .int p_loss, .int e_number])), (hR, .inr (2, [.ref (ed 0), .int e_length, .int (u55080.2.1 0), .ref hp, .int (u55080.2.1 1), .int (u55080.2.1 2), .int (u55080.2.1 3), .long (u55080.2.2.1 0), .int e_told, .int (u55080.2.1 4), .int (u55080.2.1 5)])), (ed 0, .inl (cyB, 1600, .inl e_text))] H := hP
        have hD : va_D A [(hp, .inr (1, [.ref (pd 0), .ref (pd 1), .ref (pd 2), .ref hf, .int p_mC, .int p_nC, .int p_kC, .int p_units, .int p_copy, .int p_loss, .int e_number])), (hR, .inr (2, [.ref (ed 0), .int e_length, .int (u55080.2.1 0), .ref hp, .int (u55080.2.1 1), .int (u55080.2.1 2), .int (u55080.2.1 3), .long (u55080.2.2.1 0), .int e_told, .int (u55080.2.1 4), .int (u55080.2.1 5)])), (ed 0, .inl (cyB, 1600, .inl e_text))] := hD
        have w55089 : 0 ≤ (u55080.2.1 0).toInt := by first | omega | assumption | rfl | (intros; rfl)
        have w55090 : (u55080.2.1 0).toInt ≤ 1600 := by first | omega | assumption | rfl | (intros; rfl)
        have w55091 : 0 ≤ (u55080.2.1 1).toInt := by first | omega | assumption | rfl | (intros; rfl)
        have w55092 : (u55080.2.1 1).toInt ≤ 5 := by first | omega | assumption | rfl | (intros; rfl)
        have w55093 : 0 ≤ (u55080.2.1 2).toInt := by first | omega | assumption | rfl | (intros; rfl)
        have w55094 : (u55080.2.1 2).toInt ≤ 1600 := by first | omega | assumption | rfl | (intros; rfl)
        have w55095 : (u55080.2.1 4).toInt = 0 → e_faultKind.toInt = 0 := by first | omega | assumption | rfl | (intros; rfl)
        have w55096 : (u55080.2.1 4).toInt = 0 → (0 ≤ p_draw.toInt ∧ p_draw.toInt ≤ 999) → 0 ≤ e_number.toInt ∧ e_number.toInt ≤ 999 := by first | omega | assumption | rfl | (intros; rfl)
        exact W.vret hx hb hr (fun t ht hW => ⟨⟨((fun _ => fun _ => 0), (fun k => match k with | 0 => u55080.2.1 0 | 1 => u55080.2.1 1 | 2 => u55080.2.1 2 | 3 => u55080.2.1 3 | 4 => u55080.2.1 4 | 5 => u55080.2.1 5 | 6 => p_copy | 7 => p_loss | _ => e_number), (fun _ => u55080.2.2.1 0), (fun _ => fun _ => 0)), rfl, ⟨w55089, w55090, w55091, w55092, w55093, w55094, w55095, w55096⟩, cE.of ht hP hD [1, 2, 0] (by decide) rfl⟩, hS.F ht⟩) hS.2.2 dX2_readSetting_87
      · have c55078 := i_eq (a := x1.toInt) (b := 5) c55078 rfl (by decide)
        refine lv_aload_n hx hb dX2_readSetting_47 rfl (lv_at hl 0 rfl) ?_
        refine va_get (D := (dC, dI)) (ci := 2) (v := .ref hp) (C := RX2) (T := TX2) (N := 11) hx hb hts hi2 hown hK hP 0 rfl rfl 3 (by decide) (hts _ (ow_m (k := 1) rfl)) (fun _ h9 => h9) rfl dX2_readSetting_48 ?_
        refine lv_aload_n hx hb dX2_readSetting_51 rfl (lv_at hl 0 rfl) ?_
        refine va_get (D := (dC, dI)) (ci := 2) (v := .int e_number) (C := RX2) (T := TX2) (N := 11) hx hb hts hi2 hown hK hP 0 rfl rfl 6 (by decide) (hts _ (ow_m (k := 2) rfl)) (fun _ h9 => h9) rfl dX2_readSetting_52 ?_
        refine va_put (D := (dC, dI)) (ci := 1) (v := .int e_number) (ty := .int) (C := RX1) (T := TX1) (N := 11) hx hb hts hi1 tyX1 tyX1_ok nmX1 hown hK hP hD hS 2 rfl rfl 9 (by decide) (hts _ (ow_m (k := 8) rfl)) (fun _ h9 => h9) rfl (by decide +kernel) rfl rfl (Nat.le_of_ble_eq_true rfl) dX2_readSetting_55 (fun H locs hP hD hS => ?_)
        have hP : va_P (dC, dI) vwCl [(hR, .inr (2, [.ref (ed 0), .int e_length, .int e_at, .ref hp, .int e_kind, .int e_start, .int e_number, .long e_name, .int e_told, .int e_faultKind, .int e_faultPlace])), (ed 0, .inl (cyB, 1600, .inl e_text)), (hp, .inr (1, [.ref (pd 0), .ref (pd 1), .ref (pd 2), .ref hf, .int p_mC, .int p_nC, .int p_kC, .int p_units, .int p_copy, .int e_number, .int p_draw]))] H := hP
        have hD : va_D A [(hR, .inr (2, [.ref (ed 0), .int e_length, .int e_at, .ref hp, .int e_kind, .int e_start, .int e_number, .long e_name, .int e_told, .int e_faultKind, .int e_faultPlace])), (ed 0, .inl (cyB, 1600, .inl e_text)), (hp, .inr (1, [.ref (pd 0), .ref (pd 1), .ref (pd 2), .ref hf, .int p_mC, .int p_nC, .int p_kC, .int p_units, .int p_copy, .int e_number, .int p_draw]))] := hD
        refine lv_aload_n hx hb dX2_readSetting_58 rfl (lv_at hl 0 rfl) ?_
        refine lv_iconst (v := 0) hx hb dX2_readSetting_59 (by decide) ?_
        refine lv_bipush (v := 100) hx hb dX2_readSetting_60 (by decide) ?_
        refine gf_v (wr := [(hp, .inr (1, [.ref (pd 0), .ref (pd 1), .ref (pd 2), .ref hf, .int p_mC, .int p_nC, .int p_kC, .int p_units, .int p_copy, .int e_number, .int p_draw]))]) (va_runV (As := [.int 0, .int 100]) (rest := []) hfix (k_Re_checkNumber l dC dI cyB cyI cyJ cyZ cyO adK adV hR ed e_text e_length e_at e_kind e_start e_number e_told e_faultKind e_faultPlace e_name (0 : Int32) (100 : Int32) hp _ (by first | omega | assumption) (by first | omega | assumption) (by first | omega | assumption) (by first | omega | assumption) (by first | omega | assumption) (by first | omega | assumption) (by first | omega | assumption) (by first | omega | assumption)) (cwV 2 hts (gi_V (ow_m (k := 4) rfl) (ow_m (k := 5) rfl) (ow_m (k := 6) rfl) (ow_m (k := 7) rfl) (sb_c sb_l) gd_k_Re_checkNumber) rfl rfl rfl (by decide +kernel) ⟨Nat.le_of_ble_eq_true rfl, Nat.le_of_ble_eq_true rfl⟩) (g_preVZ hZ hS hA hKN hP hD [0, 1] rfl (by decide) 0 2 rfl rfl) rfl rfl hl.1 rfl (lv_room (Nat.le_of_ble_eq_true rfl)) dX2_readSetting_62 ⟨Nat.le_of_ble_eq_true rfl, Nat.le_of_ble_eq_true rfl⟩) hP hD hS hA [0, 1] [2] rfl rfl (by decide) (by decide) (fun u55098 H locs qu55098 hP hD hS => ?_)
        obtain ⟨b55099, b55100, b55101, b55102, b55103, b55104, b55105, b55106⟩ := qu55098
        have hP : va_P (dC, dI) vwCl [(hp, .inr (1, [.ref (pd 0), .ref (pd 1), .ref (pd 2), .ref hf, .int p_mC, .int p_nC, .int p_kC, .int p_units, .int p_copy, .int e_number, .int p_draw])), (hR, .inr (2, [.ref (ed 0), .int e_length, .int (u55098.2.1 0), .ref hp, .int (u55098.2.1 1), .int (u55098.2.1 2), .int (u55098.2.1 3), .long (u55098.2.2.1 0), .int e_told, .int (u55098.2.1 4), .int (u55098.2.1 5)])), (ed 0, .inl (cyB, 1600, .inl e_text))] H := hP
        have hD : va_D A [(hp, .inr (1, [.ref (pd 0), .ref (pd 1), .ref (pd 2), .ref hf, .int p_mC, .int p_nC, .int p_kC, .int p_units, .int p_copy, .int e_number, .int p_draw])), (hR, .inr (2, [.ref (ed 0), .int e_length, .int (u55098.2.1 0), .ref hp, .int (u55098.2.1 1), .int (u55098.2.1 2), .int (u55098.2.1 3), .long (u55098.2.2.1 0), .int e_told, .int (u55098.2.1 4), .int (u55098.2.1 5)])), (ed 0, .inl (cyB, 1600, .inl e_text))] := hD
        refine lv_goto (tgt := 87) hx hb dX2_readSetting_65 (by decide) ?_
        have w55107 : 0 ≤ (u55098.2.1 0).toInt := by first | omega | assumption | rfl | (intros; rfl)
        have w55108 : (u55098.2.1 0).toInt ≤ 1600 := by first | omega | assumption | rfl | (intros; rfl)
        have w55109 : 0 ≤ (u55098.2.1 1).toInt := by first | omega | assumption | rfl | (intros; rfl)
        have w55110 : (u55098.2.1 1).toInt ≤ 5 := by first | omega | assumption | rfl | (intros; rfl)
        have w55111 : 0 ≤ (u55098.2.1 2).toInt := by first | omega | assumption | rfl | (intros; rfl)
        have w55112 : (u55098.2.1 2).toInt ≤ 1600 := by first | omega | assumption | rfl | (intros; rfl)
        have w55113 : (u55098.2.1 4).toInt = 0 → e_faultKind.toInt = 0 := by first | omega | assumption | rfl | (intros; rfl)
        have w55114 : (u55098.2.1 4).toInt = 0 → (0 ≤ p_draw.toInt ∧ p_draw.toInt ≤ 999) → 0 ≤ p_draw.toInt ∧ p_draw.toInt ≤ 999 := by first | omega | assumption | rfl | (intros; rfl)
        exact W.vret hx hb hr (fun t ht hW => ⟨⟨((fun _ => fun _ => 0), (fun k => match k with | 0 => u55098.2.1 0 | 1 => u55098.2.1 1 | 2 => u55098.2.1 2 | 3 => u55098.2.1 3 | 4 => u55098.2.1 4 | 5 => u55098.2.1 5 | 6 => p_copy | 7 => e_number | _ => p_draw), (fun _ => u55098.2.2.1 0), (fun _ => fun _ => 0)), rfl, ⟨w55107, w55108, w55109, w55110, w55111, w55112, w55113, w55114⟩, cE.of ht hP hD [1, 2, 0] (by decide) rfl⟩, hS.F ht⟩) hS.2.2 dX2_readSetting_87
    · have c55077 := i_eq (a := x1.toInt) (b := 4) c55077 rfl (by decide)
      refine lv_aload_n hx hb dX2_readSetting_21 rfl (lv_at hl 0 rfl) ?_
      refine va_get (D := (dC, dI)) (ci := 2) (v := .ref hp) (C := RX2) (T := TX2) (N := 11) hx hb hts hi2 hown hK hP 0 rfl rfl 3 (by decide) (hts _ (ow_m (k := 1) rfl)) (fun _ h9 => h9) rfl dX2_readSetting_22 ?_
      refine lv_aload_n hx hb dX2_readSetting_25 rfl (lv_at hl 0 rfl) ?_
      refine va_get (D := (dC, dI)) (ci := 2) (v := .int e_number) (C := RX2) (T := TX2) (N := 11) hx hb hts hi2 hown hK hP 0 rfl rfl 6 (by decide) (hts _ (ow_m (k := 2) rfl)) (fun _ h9 => h9) rfl dX2_readSetting_26 ?_
      refine va_put (D := (dC, dI)) (ci := 1) (v := .int e_number) (ty := .int) (C := RX1) (T := TX1) (N := 11) hx hb hts hi1 tyX1 tyX1_ok nmX1 hown hK hP hD hS 2 rfl rfl 8 (by decide) (hts _ (ow_m (k := 9) rfl)) (fun _ h9 => h9) rfl (by decide +kernel) rfl rfl (Nat.le_of_ble_eq_true rfl) dX2_readSetting_29 (fun H locs hP hD hS => ?_)
      have hP : va_P (dC, dI) vwCl [(hR, .inr (2, [.ref (ed 0), .int e_length, .int e_at, .ref hp, .int e_kind, .int e_start, .int e_number, .long e_name, .int e_told, .int e_faultKind, .int e_faultPlace])), (ed 0, .inl (cyB, 1600, .inl e_text)), (hp, .inr (1, [.ref (pd 0), .ref (pd 1), .ref (pd 2), .ref hf, .int p_mC, .int p_nC, .int p_kC, .int p_units, .int e_number, .int p_loss, .int p_draw]))] H := hP
      have hD : va_D A [(hR, .inr (2, [.ref (ed 0), .int e_length, .int e_at, .ref hp, .int e_kind, .int e_start, .int e_number, .long e_name, .int e_told, .int e_faultKind, .int e_faultPlace])), (ed 0, .inl (cyB, 1600, .inl e_text)), (hp, .inr (1, [.ref (pd 0), .ref (pd 1), .ref (pd 2), .ref hf, .int p_mC, .int p_nC, .int p_kC, .int p_units, .int e_number, .int p_loss, .int p_draw]))] := hD
      refine lv_aload_n hx hb dX2_readSetting_32 rfl (lv_at hl 0 rfl) ?_
      refine lv_iconst (v := 1) hx hb dX2_readSetting_33 (by decide) ?_
      refine lv_bipush (v := 9) hx hb dX2_readSetting_34 (by decide) ?_
      refine gf_v (wr := [(hp, .inr (1, [.ref (pd 0), .ref (pd 1), .ref (pd 2), .ref hf, .int p_mC, .int p_nC, .int p_kC, .int p_units, .int e_number, .int p_loss, .int p_draw]))]) (va_runV (As := [.int 1, .int 9]) (rest := []) hfix (k_Re_checkNumber l dC dI cyB cyI cyJ cyZ cyO adK adV hR ed e_text e_length e_at e_kind e_start e_number e_told e_faultKind e_faultPlace e_name (1 : Int32) (9 : Int32) hp _ (by first | omega | assumption) (by first | omega | assumption) (by first | omega | assumption) (by first | omega | assumption) (by first | omega | assumption) (by first | omega | assumption) (by first | omega | assumption) (by first | omega | assumption)) (cwV 2 hts (gi_V (ow_m (k := 4) rfl) (ow_m (k := 5) rfl) (ow_m (k := 6) rfl) (ow_m (k := 7) rfl) (sb_c sb_l) gd_k_Re_checkNumber) rfl rfl rfl (by decide +kernel) ⟨Nat.le_of_ble_eq_true rfl, Nat.le_of_ble_eq_true rfl⟩) (g_preVZ hZ hS hA hKN hP hD [0, 1] rfl (by decide) 0 2 rfl rfl) rfl rfl hl.1 rfl (lv_room (Nat.le_of_ble_eq_true rfl)) dX2_readSetting_36 ⟨Nat.le_of_ble_eq_true rfl, Nat.le_of_ble_eq_true rfl⟩) hP hD hS hA [0, 1] [2] rfl rfl (by decide) (by decide) (fun u55116 H locs qu55116 hP hD hS => ?_)
      obtain ⟨b55117, b55118, b55119, b55120, b55121, b55122, b55123, b55124⟩ := qu55116
      have hP : va_P (dC, dI) vwCl [(hp, .inr (1, [.ref (pd 0), .ref (pd 1), .ref (pd 2), .ref hf, .int p_mC, .int p_nC, .int p_kC, .int p_units, .int e_number, .int p_loss, .int p_draw])), (hR, .inr (2, [.ref (ed 0), .int e_length, .int (u55116.2.1 0), .ref hp, .int (u55116.2.1 1), .int (u55116.2.1 2), .int (u55116.2.1 3), .long (u55116.2.2.1 0), .int e_told, .int (u55116.2.1 4), .int (u55116.2.1 5)])), (ed 0, .inl (cyB, 1600, .inl e_text))] H := hP
      have hD : va_D A [(hp, .inr (1, [.ref (pd 0), .ref (pd 1), .ref (pd 2), .ref hf, .int p_mC, .int p_nC, .int p_kC, .int p_units, .int e_number, .int p_loss, .int p_draw])), (hR, .inr (2, [.ref (ed 0), .int e_length, .int (u55116.2.1 0), .ref hp, .int (u55116.2.1 1), .int (u55116.2.1 2), .int (u55116.2.1 3), .long (u55116.2.2.1 0), .int e_told, .int (u55116.2.1 4), .int (u55116.2.1 5)])), (ed 0, .inl (cyB, 1600, .inl e_text))] := hD
      refine lv_goto (tgt := 87) hx hb dX2_readSetting_39 (by decide) ?_
      have w55125 : 0 ≤ (u55116.2.1 0).toInt := by first | omega | assumption | rfl | (intros; rfl)
      have w55126 : (u55116.2.1 0).toInt ≤ 1600 := by first | omega | assumption | rfl | (intros; rfl)
      have w55127 : 0 ≤ (u55116.2.1 1).toInt := by first | omega | assumption | rfl | (intros; rfl)
      have w55128 : (u55116.2.1 1).toInt ≤ 5 := by first | omega | assumption | rfl | (intros; rfl)
      have w55129 : 0 ≤ (u55116.2.1 2).toInt := by first | omega | assumption | rfl | (intros; rfl)
      have w55130 : (u55116.2.1 2).toInt ≤ 1600 := by first | omega | assumption | rfl | (intros; rfl)
      have w55131 : (u55116.2.1 4).toInt = 0 → e_faultKind.toInt = 0 := by first | omega | assumption | rfl | (intros; rfl)
      have w55132 : (u55116.2.1 4).toInt = 0 → (0 ≤ p_draw.toInt ∧ p_draw.toInt ≤ 999) → 0 ≤ p_draw.toInt ∧ p_draw.toInt ≤ 999 := by first | omega | assumption | rfl | (intros; rfl)
      exact W.vret hx hb hr (fun t ht hW => ⟨⟨((fun _ => fun _ => 0), (fun k => match k with | 0 => u55116.2.1 0 | 1 => u55116.2.1 1 | 2 => u55116.2.1 2 | 3 => u55116.2.1 3 | 4 => u55116.2.1 4 | 5 => u55116.2.1 5 | 6 => e_number | 7 => p_loss | _ => p_draw), (fun _ => u55116.2.2.1 0), (fun _ => fun _ => 0)), rfl, ⟨w55125, w55126, w55127, w55128, w55129, w55130, w55131, w55132⟩, cE.of ht hP hD [1, 2, 0] (by decide) rfl⟩, hS.F ht⟩) hS.2.2 dX2_readSetting_87
  · have c55076 := i_ne (a := e_kind.toInt) (b := 3) c55076 rfl (by decide)
    refine lv_aload_n hx hb dX2_readSetting_8 rfl (lv_at hl 0 rfl) ?_
    refine lv_iconst (v := 2) hx hb dX2_readSetting_9 (by decide) ?_
    refine gf_v (wr := [(ed 0, .inl (cyB, 1600, .inl e_text)), (hp, .inr (1, [.ref (pd 0), .ref (pd 1), .ref (pd 2), .ref hf, .int p_mC, .int p_nC, .int p_kC, .int p_units, .int p_copy, .int p_loss, .int p_draw]))]) (va_runV (As := [.int 2]) (rest := []) hfix (k_Re_refuse l dC dI cyB cyI cyJ cyZ cyO hR ed e_length e_at e_kind e_start e_number e_told e_faultKind e_faultPlace e_name (2 : Int32) hp _ (by first | omega | assumption) (by first | omega | assumption) (by first | omega | assumption) (by first | omega | assumption) (by first | omega | assumption) (by first | omega | assumption) (by first | omega | assumption) (by first | omega | assumption) (by first | omega | assumption) (by first | omega | assumption)) (cwV 1 hts (gi_V (ow_m (k := 10) rfl) (ow_m (k := 11) rfl) (ow_m (k := 12) rfl) (ow_m (k := 7) rfl) (sb_c (sb_r sb_l)) gd_k_Re_refuse) rfl rfl rfl (by decide +kernel) ⟨Nat.le_of_ble_eq_true rfl, Nat.le_of_ble_eq_true rfl⟩) (g_preV hKN hP hD [0] rfl (by decide) 0 2 rfl rfl) rfl rfl hl.1 rfl (lv_room (Nat.le_of_ble_eq_true rfl)) dX2_readSetting_10 ⟨Nat.le_of_ble_eq_true rfl, Nat.le_of_ble_eq_true rfl⟩) hP hD hS hA [0] [1, 2] rfl rfl (by decide) (by decide) (fun u55134 H locs qu55134 hP hD hS => ?_)
    have b55135 := qu55134
    have hP : va_P (dC, dI) vwCl [(ed 0, .inl (cyB, 1600, .inl e_text)), (hp, .inr (1, [.ref (pd 0), .ref (pd 1), .ref (pd 2), .ref hf, .int p_mC, .int p_nC, .int p_kC, .int p_units, .int p_copy, .int p_loss, .int p_draw])), (hR, .inr (2, [.ref (ed 0), .int e_length, .int e_at, .ref hp, .int e_kind, .int e_start, .int e_number, .long e_name, .int e_told, .int (u55134.2.1 0), .int (u55134.2.1 1)]))] H := hP
    have hD : va_D A [(ed 0, .inl (cyB, 1600, .inl e_text)), (hp, .inr (1, [.ref (pd 0), .ref (pd 1), .ref (pd 2), .ref hf, .int p_mC, .int p_nC, .int p_kC, .int p_units, .int p_copy, .int p_loss, .int p_draw])), (hR, .inr (2, [.ref (ed 0), .int e_length, .int e_at, .ref hp, .int e_kind, .int e_start, .int e_number, .long e_name, .int e_told, .int (u55134.2.1 0), .int (u55134.2.1 1)]))] := hD
    refine lv_goto (tgt := 87) hx hb dX2_readSetting_13 (by decide) ?_
    have w55136 : 0 ≤ e_at.toInt := by first | omega | assumption | rfl | (intros; rfl)
    have w55137 : e_at.toInt ≤ 1600 := by first | omega | assumption | rfl | (intros; rfl)
    have w55138 : 0 ≤ e_kind.toInt := by first | omega | assumption | rfl | (intros; rfl)
    have w55139 : e_kind.toInt ≤ 5 := by first | omega | assumption | rfl | (intros; rfl)
    have w55140 : 0 ≤ e_start.toInt := by first | omega | assumption | rfl | (intros; rfl)
    have w55141 : e_start.toInt ≤ 1600 := by first | omega | assumption | rfl | (intros; rfl)
    have w55142 : (u55134.2.1 0).toInt = 0 → e_faultKind.toInt = 0 := by first | omega | assumption | rfl | (intros; rfl)
    have w55143 : (u55134.2.1 0).toInt = 0 → (0 ≤ p_draw.toInt ∧ p_draw.toInt ≤ 999) → 0 ≤ p_draw.toInt ∧ p_draw.toInt ≤ 999 := by first | omega | assumption | rfl | (intros; rfl)
    exact W.vret hx hb hr (fun t ht hW => ⟨⟨((fun _ => fun _ => 0), (fun k => match k with | 0 => e_at | 1 => e_kind | 2 => e_start | 3 => e_number | 4 => u55134.2.1 0 | 5 => u55134.2.1 1 | 6 => p_copy | 7 => p_loss | _ => p_draw), (fun _ => e_name), (fun _ => fun _ => 0)), rfl, ⟨w55136, w55137, w55138, w55139, w55140, w55141, w55142, w55143⟩, cE.of ht hP hD [2, 0, 1] (by decide) rfl⟩, hS.F ht⟩) hS.2.2 dX2_readSetting_87
def wo_k_Re_readWithin_7 : List Cond := [.methodLink RX2 69 yX2_refuse, .instanceMethod yX2_refuse, .selects RX2 yX2_refuse yX2_refuse, .initialized RX2]
def wq_k_Re_readWithin_7 : List Cond := .code yX2_readWithin cX2_readWithin 2 none :: (wo_k_Re_readWithin_7 ++ (wq_k_Re_refuse ++ []))
theorem gd_k_Re_readWithin_7 : Gd wq_k_Re_readWithin_7 := gd_c (gd_a (gd_o (by decide +kernel)) (gd_a gd_k_Re_refuse gd_0))
abbrev wc_k_Re_readWithin_7 (cyB cyI cyJ cyZ cyO : ClassId) (hR : Nat) (ed : Nat → Nat) (e_length : Int32) (e_at : Int32) (e_kind : Int32) (e_start : Int32) (e_number : Int32) (e_told : Int32) (e_faultKind : Int32) (e_faultPlace : Int32) (e_name : Int64) (hp : Nat) (pd : Nat → Nat) (p_mC : Int32) (p_nC : Int32) (p_kC : Int32) (p_units : Int32) (p_copy : Int32) (p_loss : Int32) (p_draw : Int32) (hf : Nat) (fd : Nat → Nat) (f_length : Int32) : va_W := [(hR, .inr (2, [.ref (ed 0), .int e_length, .int e_at, .ref hp, .int e_kind, .int e_start, .int e_number, .long e_name, .int e_told, .int e_faultKind, .int e_faultPlace])), (hp, .inr (1, [.ref (pd 0), .ref (pd 1), .ref (pd 2), .ref hf, .int p_mC, .int p_nC, .int p_kC, .int p_units, .int p_copy, .int p_loss, .int p_draw])), (hf, .inr (0, [.ref (fd 0), .ref (fd 1), .ref (fd 2), .int f_length]))]
set_option maxHeartbeats 4000000 in
set_option maxRecDepth 100000 in
theorem k_Re_readWithin_7 (l : Launch) (dC : Nat → ClassId) (dI : Nat → Nat → Nat) (cyB cyI cyJ cyZ cyO : ClassId) (adK adV : Nat → Nat) (hR : Nat) (ed : Nat → Nat) (e_length : Int32) (e_at : Int32) (e_kind : Int32) (e_start : Int32) (e_number : Int32) (e_told : Int32) (e_faultKind : Int32) (e_faultPlace : Int32) (e_name : Int64) (hp : Nat) (pd : Nat → Nat) (p_mC : Int32) (p_nC : Int32) (p_kC : Int32) (p_units : Int32) (p_copy : Int32) (p_loss : Int32) (p_draw : Int32) (hf : Nat) (fd : Nat → Nat) (f_length : Int32) (sz : Nat) (l_e_length : 0 ≤ e_length.toInt) (u_e_length : e_length.toInt ≤ 1600) (l_e_at : 0 ≤ e_at.toInt) (u_e_at : e_at.toInt ≤ 1600) (l_e_kind : 0 ≤ e_kind.toInt) (u_e_kind : e_kind.toInt ≤ 5) (l_e_start : 0 ≤ e_start.toInt) (u_e_start : e_start.toInt ≤ 1600) (l_p_mC : 0 ≤ p_mC.toInt) (u_p_mC : p_mC.toInt ≤ 6) (l_p_nC : 0 ≤ p_nC.toInt) (u_p_nC : p_nC.toInt ≤ 8) (l_p_kC : 0 ≤ p_kC.toInt) (u_p_kC : p_kC.toInt ≤ 4) (l_f_length : 0 ≤ f_length.toInt) (u_f_length : f_length.toInt ≤ 270) : Met l yX2_readWithin wq_k_Re_readWithin_7 ({ frames := 2, cells := 0, slots := 0, locals := 41 }) (va_Pc [.ref hR, .int 7] (cBZ (dC, dI) (kT cyB cyI cyJ cyZ cyO) adK adV (wc_k_Re_readWithin_7 cyB cyI cyJ cyZ cyO hR ed e_length e_at e_kind e_start e_number e_told e_faultKind e_faultPlace e_name hp pd p_mC p_nC p_kC p_units p_copy p_loss p_draw hf fd f_length) sz)) (va_Qv (fun (u : ST4) => ((u.2.1 0).toInt = 0 → e_faultKind.toInt = 0)) (fun (u : ST4) t => cE (dC, dI) (va_A (wc_k_Re_readWithin_7 cyB cyI cyJ cyZ cyO hR ed e_length e_at e_kind e_start e_number e_told e_faultKind e_faultPlace e_name hp pd p_mC p_nC p_kC p_units p_copy p_loss p_draw hf fd f_length) sz) ([(hR, .inr (2, [.ref (ed 0), .int e_length, .int e_at, .ref hp, .int e_kind, .int e_start, .int e_number, .long e_name, .int e_told, .int (u.2.1 0), .int (u.2.1 1)])), (hp, .inr (1, [.ref (pd 0), .ref (pd 1), .ref (pd 2), .ref hf, .int p_mC, .int p_nC, .int p_kC, .int p_units, .int p_copy, .int p_loss, .int p_draw])), (hf, .inr (0, [.ref (fd 0), .ref (fd 1), .ref (fd 2), .int f_length]))]) t.heap) (va_A (wc_k_Re_readWithin_7 cyB cyI cyJ cyZ cyO hR ed e_length e_at e_kind e_start e_number e_told e_faultKind e_faultPlace e_name hp pd p_mC p_nC p_kC p_units p_copy p_loss p_draw hf fd f_length) sz)) 0 0 (va_A (wc_k_Re_readWithin_7 cyB cyI cyJ cyZ cyO hR ed e_length e_at e_kind e_start e_number e_told e_faultKind e_faultPlace e_name hp pd p_mC p_nC p_kC p_units p_copy p_loss p_draw hf fd f_length) sz) := by
  refine Met.ofW (cc := cX2_readWithin) (maxL := 2) (ret := none) (by decide) rfl ?_
  intro p e s m args below meth c s₁ B hml hv
  obtain ⟨rfl, ⟨hsz, hP, hKN, hD0⟩, hZ⟩ := hv
  have hx := B.exec
  have hb := B.bytes
  have hr := B.returns
  have hts := atoms_spec (ws := wq_k_Re_readWithin_7) B.pre
  have hown : s.vm.findClass RX2 = some m.cls := findClass_of_methodNamed B.named
  have hlocks := B.notSynchronized
  have hK := hKN.1
  have hfix : CallFix p m c cX2_readWithin 2 s [.ref hR, .int 7].toArray wq_k_Re_readWithin_7 RX2 := ⟨hx, hb, hml, hown, hts⟩
  subst hsz
  have hD := hD0.self (sz := s.heap.size)
  generalize hAe : va_A (wc_k_Re_readWithin_7 cyB cyI cyJ cyZ cyO hR ed e_length e_at e_kind e_start e_number e_told e_faultKind e_faultPlace e_name hp pd p_mC p_nC p_kC p_units p_copy p_loss p_draw hf fd f_length) s.heap.size = A at hD hZ ⊢
  have hA : ∀ q : Nat, s.heap.size ≤ q → A q := fun q h => by rw [← hAe]; exact Or.inr h
  have hS : va_S A s.heap s.heap [] := va_S.rf
  have hl := lv_entry ([.ref hR, .int 7]) (n := 2) (Nat.le_of_ble_eq_true rfl)
  rw [lg_entry_eq]
  generalize (lg_sl ([.ref hR, .int 7]) ++ List.replicate (2 - (lg_sl ([.ref hR, .int 7])).length) Slot.unset).toArray = ls at hl ⊢
  have hl : lv_has ls 2 [(0, .ref hR), (1, .int 7)] := hl
  have ck2 : (2 : Int32).toInt = 2 := by decide
  refine lv_iload_n hx hb dX2_readWithin_0 rfl (lv_at hl 1 rfl) ?_
  refine lv_bipush (v := 6) hx hb dX2_readWithin_1 (by decide) ?_
  refine lv_icmp_le (tgt := 12) hx hb dX2_readWithin_3 (by decide) (fun c55152 => absurd c55152 (by decide)) (fun _ => ?_)
  refine lv_aload_n hx hb dX2_readWithin_6 rfl (lv_at hl 0 rfl) ?_
  refine lv_iconst (v := 2) hx hb dX2_readWithin_7 (by decide) ?_
  refine gf_v (wr := [(hp, .inr (1, [.ref (pd 0), .ref (pd 1), .ref (pd 2), .ref hf, .int p_mC, .int p_nC, .int p_kC, .int p_units, .int p_copy, .int p_loss, .int p_draw])), (hf, .inr (0, [.ref (fd 0), .ref (fd 1), .ref (fd 2), .int f_length]))]) (va_runV (As := [.int 2]) (rest := []) hfix (k_Re_refuse l dC dI cyB cyI cyJ cyZ cyO hR ed e_length e_at e_kind e_start e_number e_told e_faultKind e_faultPlace e_name (2 : Int32) hp _ (by first | omega | assumption) (by first | omega | assumption) (by first | omega | assumption) (by first | omega | assumption) (by first | omega | assumption) (by first | omega | assumption) (by first | omega | assumption) (by first | omega | assumption) (by first | omega | assumption) (by first | omega | assumption)) (cwV 1 hts (gi_V (ow_m (k := 0) rfl) (ow_m (k := 1) rfl) (ow_m (k := 2) rfl) (ow_m (k := 3) rfl) (sb_c sb_l) gd_k_Re_refuse) rfl rfl rfl (by decide +kernel) ⟨Nat.le_of_ble_eq_true rfl, Nat.le_of_ble_eq_true rfl⟩) (g_preV hKN hP hD [0] rfl (by decide) 0 2 rfl rfl) rfl rfl hl.1 rfl (lv_room (Nat.le_of_ble_eq_true rfl)) dX2_readWithin_8 ⟨Nat.le_of_ble_eq_true rfl, Nat.le_of_ble_eq_true rfl⟩) hP hD hS hA [0] [1, 2] rfl rfl (by decide) (by decide) (fun u55154 H locs qu55154 hP hD hS => ?_)
  have b55155 := qu55154
  have hP : va_P (dC, dI) vwCl [(hp, .inr (1, [.ref (pd 0), .ref (pd 1), .ref (pd 2), .ref hf, .int p_mC, .int p_nC, .int p_kC, .int p_units, .int p_copy, .int p_loss, .int p_draw])), (hf, .inr (0, [.ref (fd 0), .ref (fd 1), .ref (fd 2), .int f_length])), (hR, .inr (2, [.ref (ed 0), .int e_length, .int e_at, .ref hp, .int e_kind, .int e_start, .int e_number, .long e_name, .int e_told, .int (u55154.2.1 0), .int (u55154.2.1 1)]))] H := hP
  have hD : va_D A [(hp, .inr (1, [.ref (pd 0), .ref (pd 1), .ref (pd 2), .ref hf, .int p_mC, .int p_nC, .int p_kC, .int p_units, .int p_copy, .int p_loss, .int p_draw])), (hf, .inr (0, [.ref (fd 0), .ref (fd 1), .ref (fd 2), .int f_length])), (hR, .inr (2, [.ref (ed 0), .int e_length, .int e_at, .ref hp, .int e_kind, .int e_start, .int e_number, .long e_name, .int e_told, .int (u55154.2.1 0), .int (u55154.2.1 1)]))] := hD
  have w55156 : (u55154.2.1 0).toInt = 0 → e_faultKind.toInt = 0 := by first | omega | assumption | rfl | (intros; rfl)
  exact W.vret hx hb hr (fun t ht hW => ⟨⟨((fun _ => fun _ => 0), (fun k => match k with | 0 => u55154.2.1 0 | _ => u55154.2.1 1), (fun _ => 0), (fun _ => fun _ => 0)), rfl, w55156, cE.of ht hP hD [2, 0, 1] (by decide) rfl⟩, hS.F ht⟩) hS.2.2 dX2_readWithin_11
def wo_k_Re_readUnit_7 : List Cond := [.fieldLink RX2 53 "ReplicaChain$Reader" "kind" "I", .fieldLink RX2 19 "ReplicaChain$Reader" "plan" "LReplicaChain$Plan;", .fieldLink RX2 157 "ReplicaChain$Plan" "units" "I", .methodLink RX2 82 yX2_isSign, .instanceMethod yX2_isSign, .selects RX2 yX2_isSign yX2_isSign, .initialized RX2, .fieldLink RX2 133 "ReplicaChain$Plan" "slow" "LReplicaChain$Formula;", .fieldLink RX2 62 "ReplicaChain$Reader" "number" "I", .methodLink RX2 139 yX0_add, .instanceMethod yX0_add, .selects RX0 yX0_add yX0_add, .initialized RX0, .methodLink RX2 46 yX2_advance, .instanceMethod yX2_advance, .selects RX2 yX2_advance yX2_advance, .methodLink RX2 160 yX2_readWithin, .instanceMethod yX2_readWithin, .selects RX2 yX2_readWithin yX2_readWithin, .methodLink RX2 69 yX2_refuse, .instanceMethod yX2_refuse, .selects RX2 yX2_refuse yX2_refuse]
def wq_k_Re_readUnit_7 : List Cond := .code yX2_readUnit cX2_readUnit 3 none :: (wo_k_Re_readUnit_7 ++ (wq_k_Re_isSign ++ (wq_k_Fo_add ++ (wq_k_Re_advance ++ (wq_k_Re_readWithin_7 ++ (wq_k_Re_refuse ++ (wsX10 ++ (wsX20 ++ []))))))))
theorem gd_k_Re_readUnit_7 : Gd wq_k_Re_readUnit_7 := gd_c (gd_a (gd_o (by decide +kernel)) (gd_a gd_k_Re_isSign (gd_a gd_k_Fo_add (gd_a gd_k_Re_advance (gd_a gd_k_Re_readWithin_7 (gd_a gd_k_Re_refuse (gd_a gd_u (gd_a gd_u gd_0))))))))
abbrev wc_k_Re_readUnit_7 (cyB cyI cyJ cyZ cyO : ClassId) (hR : Nat) (ed : Nat → Nat) (e_text : Nat → Int32) (e_length : Int32) (e_at : Int32) (e_kind : Int32) (e_start : Int32) (e_number : Int32) (e_told : Int32) (e_faultKind : Int32) (e_faultPlace : Int32) (e_name : Int64) (hp : Nat) (pd : Nat → Nat) (p_mC : Int32) (p_nC : Int32) (p_kC : Int32) (p_units : Int32) (p_copy : Int32) (p_loss : Int32) (p_draw : Int32) (hf : Nat) (fd : Nat → Nat) (f_steps : Nat → Int32) (f_length : Int32) : va_W := [(hR, .inr (2, [.ref (ed 0), .int e_length, .int e_at, .ref hp, .int e_kind, .int e_start, .int e_number, .long e_name, .int e_told, .int e_faultKind, .int e_faultPlace])), (ed 0, .inl (cyB, 1600, .inl e_text)), (hp, .inr (1, [.ref (pd 0), .ref (pd 1), .ref (pd 2), .ref hf, .int p_mC, .int p_nC, .int p_kC, .int p_units, .int p_copy, .int p_loss, .int p_draw])), (hf, .inr (0, [.ref (fd 0), .ref (fd 1), .ref (fd 2), .int f_length])), (fd 0, .inl (cyI, 270, .inl f_steps))]
set_option maxHeartbeats 4000000 in
set_option maxRecDepth 100000 in
theorem k_Re_readUnit_7 (l : Launch) (dC : Nat → ClassId) (dI : Nat → Nat → Nat) (cyB cyI cyJ cyZ cyO : ClassId) (adK adV : Nat → Nat) (hR : Nat) (ed : Nat → Nat) (e_text : Nat → Int32) (e_length : Int32) (e_at : Int32) (e_kind : Int32) (e_start : Int32) (e_number : Int32) (e_told : Int32) (e_faultKind : Int32) (e_faultPlace : Int32) (e_name : Int64) (hp : Nat) (pd : Nat → Nat) (p_mC : Int32) (p_nC : Int32) (p_kC : Int32) (p_units : Int32) (p_copy : Int32) (p_loss : Int32) (p_draw : Int32) (hf : Nat) (fd : Nat → Nat) (f_steps : Nat → Int32) (f_length : Int32) (sz : Nat) (l_e_length : 0 ≤ e_length.toInt) (u_e_length : e_length.toInt ≤ 1600) (l_e_at : 0 ≤ e_at.toInt) (u_e_at : e_at.toInt ≤ 1600) (l_e_kind : 0 ≤ e_kind.toInt) (u_e_kind : e_kind.toInt ≤ 5) (l_e_start : 0 ≤ e_start.toInt) (u_e_start : e_start.toInt ≤ 1600) (l_p_mC : 0 ≤ p_mC.toInt) (u_p_mC : p_mC.toInt ≤ 6) (l_p_nC : 0 ≤ p_nC.toInt) (u_p_nC : p_nC.toInt ≤ 8) (l_p_kC : 0 ≤ p_kC.toInt) (u_p_kC : p_kC.toInt ≤ 4) (l_f_length : 0 ≤ f_length.toInt) (u_f_length : f_length.toInt ≤ 270) : Met l yX2_readUnit wq_k_Re_readUnit_7 ({ frames := 7, cells := 0, slots := 0, locals := 149 }) (va_Pc [.ref hR, .int 7] (cBZ (dC, dI) (kT cyB cyI cyJ cyZ cyO) adK adV (wc_k_Re_readUnit_7 cyB cyI cyJ cyZ cyO hR ed e_text e_length e_at e_kind e_start e_number e_told e_faultKind e_faultPlace e_name hp pd p_mC p_nC p_kC p_units p_copy p_loss p_draw hf fd f_steps f_length) sz)) (va_Qv (fun (u : ST4) => (0 ≤ (u.2.1 0).toInt) ∧ ((u.2.1 0).toInt ≤ 1600) ∧ (0 ≤ (u.2.1 1).toInt) ∧ ((u.2.1 1).toInt ≤ 5) ∧ (0 ≤ (u.2.1 2).toInt) ∧ ((u.2.1 2).toInt ≤ 1600) ∧ (0 ≤ (u.2.1 7).toInt) ∧ ((u.2.1 7).toInt ≤ 270) ∧ ((u.2.1 4).toInt = 0 → e_faultKind.toInt = 0)) (fun (u : ST4) t => cE (dC, dI) (va_A (wc_k_Re_readUnit_7 cyB cyI cyJ cyZ cyO hR ed e_text e_length e_at e_kind e_start e_number e_told e_faultKind e_faultPlace e_name hp pd p_mC p_nC p_kC p_units p_copy p_loss p_draw hf fd f_steps f_length) sz) ([(hR, .inr (2, [.ref (ed 0), .int e_length, .int (u.2.1 0), .ref hp, .int (u.2.1 1), .int (u.2.1 2), .int (u.2.1 3), .long (u.2.2.1 0), .int e_told, .int (u.2.1 4), .int (u.2.1 5)])), (ed 0, .inl (cyB, 1600, .inl e_text)), (hp, .inr (1, [.ref (pd 0), .ref (pd 1), .ref (pd 2), .ref hf, .int p_mC, .int p_nC, .int p_kC, .int (u.2.1 6), .int p_copy, .int p_loss, .int p_draw])), (hf, .inr (0, [.ref (fd 0), .ref (fd 1), .ref (fd 2), .int (u.2.1 7)])), (fd 0, .inl (cyI, 270, .inl (u.1 0)))]) t.heap) (va_A (wc_k_Re_readUnit_7 cyB cyI cyJ cyZ cyO hR ed e_text e_length e_at e_kind e_start e_number e_told e_faultKind e_faultPlace e_name hp pd p_mC p_nC p_kC p_units p_copy p_loss p_draw hf fd f_steps f_length) sz)) 0 0 (va_A (wc_k_Re_readUnit_7 cyB cyI cyJ cyZ cyO hR ed e_text e_length e_at e_kind e_start e_number e_told e_faultKind e_faultPlace e_name hp pd p_mC p_nC p_kC p_units p_copy p_loss p_draw hf fd f_steps f_length) sz) := by
  refine Met.ofW (cc := cX2_readUnit) (maxL := 3) (ret := none) (by decide) rfl ?_
  intro p e s m args below meth c s₁ B hml hv
  obtain ⟨rfl, ⟨hsz, hP, hKN, hD0⟩, hZ⟩ := hv
  have hx := B.exec
  have hb := B.bytes
  have hr := B.returns
  have hts := atoms_spec (ws := wq_k_Re_readUnit_7) B.pre
  have hown : s.vm.findClass RX2 = some m.cls := findClass_of_methodNamed B.named
  have hlocks := B.notSynchronized
  have hK := hKN.1
  have hfix : CallFix p m c cX2_readUnit 3 s [.ref hR, .int 7].toArray wq_k_Re_readUnit_7 RX2 := ⟨hx, hb, hml, hown, hts⟩
  have hi1 : ∀ w ∈ wsX10, w ∈ wq_k_Re_readUnit_7 := (sb_c (sb_r (sb_r (sb_r (sb_r (sb_r sb_l))))))
  have hi2 : ∀ w ∈ wsX20, w ∈ wq_k_Re_readUnit_7 := (sb_c (sb_r (sb_r (sb_r (sb_r (sb_r (sb_r sb_l)))))))
  subst hsz
  have hD := hD0.self (sz := s.heap.size)
  generalize hAe : va_A (wc_k_Re_readUnit_7 cyB cyI cyJ cyZ cyO hR ed e_text e_length e_at e_kind e_start e_number e_told e_faultKind e_faultPlace e_name hp pd p_mC p_nC p_kC p_units p_copy p_loss p_draw hf fd f_steps f_length) s.heap.size = A at hD hZ ⊢
  have hA : ∀ q : Nat, s.heap.size ≤ q → A q := fun q h => by rw [← hAe]; exact Or.inr h
  have hS : va_S A s.heap s.heap [] := va_S.rf
  have hl := lv_entry ([.ref hR, .int 7]) (n := 3) (Nat.le_of_ble_eq_true rfl)
  rw [lg_entry_eq]
  generalize (lg_sl ([.ref hR, .int 7]) ++ List.replicate (3 - (lg_sl ([.ref hR, .int 7])).length) Slot.unset).toArray = ls at hl ⊢
  have hl : lv_has ls 3 [(0, .ref hR), (1, .int 7)] := hl
  have ck0 : (0 : Int32).toInt = 0 := by decide
  have ck1 : (1 : Int32).toInt = 1 := by decide
  have ck2 : (2 : Int32).toInt = 2 := by decide
  have ck40 : (40 : Int32).toInt = 40 := by decide
  refine lv_aload_n hx hb dX2_readUnit_0 rfl (lv_at hl 0 rfl) ?_
  refine va_get (D := (dC, dI)) (ci := 2) (v := .int e_kind) (C := RX2) (T := TX2) (N := 11) hx hb hts hi2 hown hK hP 0 rfl rfl 4 (by decide) (hts _ (ow_m (k := 0) rfl)) (fun _ h9 => h9) rfl dX2_readUnit_1 ?_
  refine lv_iconst (v := 1) hx hb dX2_readUnit_4 (by decide) ?_
  refine w_cut (Hy := fun H locs g => ∃ (v55504 : Int32) (ls : Array Slot), g = F0 m 31 ls [.int v55504] ∧ lv_has ls 3 [(0, .ref hR), (1, .int 7)] ∧ va_P (dC, dI) vwCl [(hR, .inr (2, [.ref (ed 0), .int e_length, .int e_at, .ref hp, .int e_kind, .int e_start, .int e_number, .long e_name, .int e_told, .int e_faultKind, .int e_faultPlace])), (ed 0, .inl (cyB, 1600, .inl e_text)), (hp, .inr (1, [.ref (pd 0), .ref (pd 1), .ref (pd 2), .ref hf, .int p_mC, .int p_nC, .int p_kC, .int p_units, .int p_copy, .int p_loss, .int p_draw])), (hf, .inr (0, [.ref (fd 0), .ref (fd 1), .ref (fd 2), .int f_length])), (fd 0, .inl (cyI, 270, .inl f_steps))] H ∧ va_D A [(hR, .inr (2, [.ref (ed 0), .int e_length, .int e_at, .ref hp, .int e_kind, .int e_start, .int e_number, .long e_name, .int e_told, .int e_faultKind, .int e_faultPlace])), (ed 0, .inl (cyB, 1600, .inl e_text)), (hp, .inr (1, [.ref (pd 0), .ref (pd 1), .ref (pd 2), .ref hf, .int p_mC, .int p_nC, .int p_kC, .int p_units, .int p_copy, .int p_loss, .int p_draw])), (hf, .inr (0, [.ref (fd 0), .ref (fd 1), .ref (fd 2), .int f_length])), (fd 0, .inl (cyI, 270, .inl f_steps))] ∧ va_S A s.heap H locs ∧ (0 ≤ v55504.toInt) ∧ (v55504.toInt ≤ 1)) (fun hj55503 => ?_) ?_
  rotate_left
  · rintro H locs _ ⟨v55504, ls, rfl, hl, hP, hD, hS, b55505, b55506⟩
    refine lv_istore_n (lv' := [(2, .int v55504), (0, .ref hR), (1, .int 7)]) hx hb dX2_readUnit_31 rfl hl (by decide) rfl (fun ls hl => ?_)
    refine lv_iload_n hx hb dX2_readUnit_32 rfl (lv_at hl 0 rfl) ?_
    refine lv_if_ne (tgt := 53) hx hb dX2_readUnit_33 (by decide) (fun c55507 => ?_) (fun c55507 => ?_)
    · have c55507 := i_ne (a := v55504.toInt) (b := 0) c55507 rfl (by decide)
      refine lv_aload_n hx hb dX2_readUnit_53 rfl (lv_at hl 1 rfl) ?_
      refine va_get (D := (dC, dI)) (ci := 2) (v := .ref hp) (C := RX2) (T := TX2) (N := 11) hx hb hts hi2 hown hK hP 0 rfl rfl 3 (by decide) (hts _ (ow_m (k := 1) rfl)) (fun _ h9 => h9) rfl dX2_readUnit_54 ?_
      refine va_get (D := (dC, dI)) (ci := 1) (v := .int p_units) (C := RX1) (T := TX1) (N := 11) hx hb hts hi1 hown hK hP 2 rfl rfl 7 (by decide) (hts _ (ow_m (k := 2) rfl)) (fun _ h9 => h9) rfl dX2_readUnit_57 ?_
      refine lv_bipush (v := 30) hx hb dX2_readUnit_60 (by decide) ?_
      refine lv_icmp_lt (tgt := 71) hx hb dX2_readUnit_62 (by decide) (fun c55508 => ?_) (fun c55508 => ?_)
      · have c55508 := i_lt (a := p_units.toInt) (b := 30) c55508 rfl (by decide)
        refine lv_aload_n hx hb dX2_readUnit_71 rfl (lv_at hl 1 rfl) ?_
        refine va_get (D := (dC, dI)) (ci := 2) (v := .ref hp) (C := RX2) (T := TX2) (N := 11) hx hb hts hi2 hown hK hP 0 rfl rfl 3 (by decide) (hts _ (ow_m (k := 1) rfl)) (fun _ h9 => h9) rfl dX2_readUnit_72 ?_
        refine lv_dup hx hb dX2_readUnit_75 rfl ?_
        refine va_get (D := (dC, dI)) (ci := 1) (v := .int p_units) (C := RX1) (T := TX1) (N := 11) hx hb hts hi1 hown hK hP 2 rfl rfl 7 (by decide) (hts _ (ow_m (k := 2) rfl)) (fun _ h9 => h9) rfl dX2_readUnit_76 ?_
        refine lv_iconst (v := 1) hx hb dX2_readUnit_79 (by decide) ?_
        refine lv_iadd hx hb dX2_readUnit_80 ?_
        refine lv_topi (fun z55509 ez55509 => ?_)
        have hby55510 := i_bd p_units
        have tz55509 := ti_add (a := p_units.toInt) (b := 1) ez55509 rfl (by decide) (by omega) (by omega)
        refine va_put (D := (dC, dI)) (ci := 1) (v := .int z55509) (ty := .int) (C := RX1) (T := TX1) (N := 11) hx hb hts hi1 tyX1 tyX1_ok nmX1 hown hK hP hD hS 2 rfl rfl 7 (by decide) (hts _ (ow_m (k := 2) rfl)) (fun _ h9 => h9) rfl (by decide +kernel) rfl rfl (Nat.le_of_ble_eq_true rfl) dX2_readUnit_81 (fun H locs hP hD hS => ?_)
        have hP : va_P (dC, dI) vwCl [(hR, .inr (2, [.ref (ed 0), .int e_length, .int e_at, .ref hp, .int e_kind, .int e_start, .int e_number, .long e_name, .int e_told, .int e_faultKind, .int e_faultPlace])), (ed 0, .inl (cyB, 1600, .inl e_text)), (hp, .inr (1, [.ref (pd 0), .ref (pd 1), .ref (pd 2), .ref hf, .int p_mC, .int p_nC, .int p_kC, .int z55509, .int p_copy, .int p_loss, .int p_draw])), (hf, .inr (0, [.ref (fd 0), .ref (fd 1), .ref (fd 2), .int f_length])), (fd 0, .inl (cyI, 270, .inl f_steps))] H := hP
        have hD : va_D A [(hR, .inr (2, [.ref (ed 0), .int e_length, .int e_at, .ref hp, .int e_kind, .int e_start, .int e_number, .long e_name, .int e_told, .int e_faultKind, .int e_faultPlace])), (ed 0, .inl (cyB, 1600, .inl e_text)), (hp, .inr (1, [.ref (pd 0), .ref (pd 1), .ref (pd 2), .ref hf, .int p_mC, .int p_nC, .int p_kC, .int z55509, .int p_copy, .int p_loss, .int p_draw])), (hf, .inr (0, [.ref (fd 0), .ref (fd 1), .ref (fd 2), .int f_length])), (fd 0, .inl (cyI, 270, .inl f_steps))] := hD
        refine lv_aload_n hx hb dX2_readUnit_84 rfl (lv_at hl 1 rfl) ?_
        refine lv_bipush (v := 40) hx hb dX2_readUnit_85 (by decide) ?_
        refine gf_i (wr := [(ed 0, .inl (cyB, 1600, .inl e_text)), (hp, .inr (1, [.ref (pd 0), .ref (pd 1), .ref (pd 2), .ref hf, .int p_mC, .int p_nC, .int p_kC, .int z55509, .int p_copy, .int p_loss, .int p_draw])), (hf, .inr (0, [.ref (fd 0), .ref (fd 1), .ref (fd 2), .int f_length])), (fd 0, .inl (cyI, 270, .inl f_steps))]) (va_runV (As := [.int 40]) (rest := []) hfix (k_Re_isSign l dC dI cyB cyI cyJ cyZ cyO hR ed e_length e_at e_kind e_start e_number e_told e_faultKind e_faultPlace e_name (40 : Int32) hp _ (by first | omega | assumption) (by first | omega | assumption) (by first | omega | assumption) (by first | omega | assumption) (by first | omega | assumption) (by first | omega | assumption) (by first | omega | assumption) (by first | omega | assumption)) (cwV 1 hts (gi_V (ow_m (k := 3) rfl) (ow_m (k := 4) rfl) (ow_m (k := 5) rfl) (ow_m (k := 6) rfl) (sb_c sb_l) gd_k_Re_isSign) rfl rfl rfl (by decide +kernel) ⟨Nat.le_of_ble_eq_true rfl, Nat.le_of_ble_eq_true rfl⟩) (g_preV hKN hP hD [0] rfl (by decide) 0 2 rfl rfl) rfl rfl hl.1 rfl (lv_room (Nat.le_of_ble_eq_true rfl)) dX2_readUnit_87 ⟨Nat.le_of_ble_eq_true rfl, Nat.le_of_ble_eq_true rfl⟩) hP hD hS hA [0] [1, 2, 3, 4] rfl rfl (by decide) (by decide) (fun r55511 u55512 H locs qu55512 hP hD hS => ?_)
        obtain ⟨b55513, b55514⟩ := qu55512
        have hP : va_P (dC, dI) vwCl [(ed 0, .inl (cyB, 1600, .inl e_text)), (hp, .inr (1, [.ref (pd 0), .ref (pd 1), .ref (pd 2), .ref hf, .int p_mC, .int p_nC, .int p_kC, .int z55509, .int p_copy, .int p_loss, .int p_draw])), (hf, .inr (0, [.ref (fd 0), .ref (fd 1), .ref (fd 2), .int f_length])), (fd 0, .inl (cyI, 270, .inl f_steps)), (hR, .inr (2, [.ref (ed 0), .int e_length, .int e_at, .ref hp, .int e_kind, .int e_start, .int e_number, .long e_name, .int e_told, .int e_faultKind, .int e_faultPlace]))] H := hP
        have hD : va_D A [(ed 0, .inl (cyB, 1600, .inl e_text)), (hp, .inr (1, [.ref (pd 0), .ref (pd 1), .ref (pd 2), .ref hf, .int p_mC, .int p_nC, .int p_kC, .int z55509, .int p_copy, .int p_loss, .int p_draw])), (hf, .inr (0, [.ref (fd 0), .ref (fd 1), .ref (fd 2), .int f_length])), (fd 0, .inl (cyI, 270, .inl f_steps)), (hR, .inr (2, [.ref (ed 0), .int e_length, .int e_at, .ref hp, .int e_kind, .int e_start, .int e_number, .long e_name, .int e_told, .int e_faultKind, .int e_faultPlace]))] := hD
        refine lv_if_eq (tgt := 99) hx hb dX2_readUnit_90 (by decide) (fun c55515 => ?_) (fun c55515 => ?_)
        · have c55515 := i_eq (a := r55511.toInt) (b := 0) c55515 rfl (by decide)
          refine lv_aload_n hx hb dX2_readUnit_99 rfl (lv_at hl 1 rfl) ?_
          refine va_get (D := (dC, dI)) (ci := 2) (v := .ref hp) (C := RX2) (T := TX2) (N := 11) hx hb hts hi2 hown hK hP 4 rfl rfl 3 (by decide) (hts _ (ow_m (k := 1) rfl)) (fun _ h9 => h9) rfl dX2_readUnit_100 ?_
          refine va_get (D := (dC, dI)) (ci := 1) (v := .ref hf) (C := RX1) (T := TX1) (N := 11) hx hb hts hi1 hown hK hP 1 rfl rfl 3 (by decide) (hts _ (ow_m (k := 7) rfl)) (fun _ h9 => h9) rfl dX2_readUnit_103 ?_
          refine lv_iload_n hx hb dX2_readUnit_106 rfl (lv_at hl 0 rfl) ?_
          refine lv_if_eq (tgt := 123) hx hb dX2_readUnit_107 (by decide) (fun c55516 => ?_) (fun c55516 => ?_)
          · have c55516 := i_eq (a := v55504.toInt) (b := 0) c55516 rfl (by decide)
            exfalso; omega
          · have c55516 := i_ne (a := v55504.toInt) (b := 0) c55516 rfl (by decide)
            refine lv_bipush (v := (-20)) hx hb dX2_readUnit_110 (by decide) ?_
            refine lv_aload_n hx hb dX2_readUnit_112 rfl (lv_at hl 1 rfl) ?_
            refine va_get (D := (dC, dI)) (ci := 2) (v := .int e_number) (C := RX2) (T := TX2) (N := 11) hx hb hts hi2 hown hK hP 4 rfl rfl 6 (by decide) (hts _ (ow_m (k := 8) rfl)) (fun _ h9 => h9) rfl dX2_readUnit_113 ?_
            refine lv_bipush (v := 7) hx hb dX2_readUnit_116 (by decide) ?_
            refine lv_isub hx hb dX2_readUnit_118 ?_
            refine lv_topi (fun z55517 ez55517 => ?_)
            refine lv_isub hx hb dX2_readUnit_119 ?_
            refine lv_topi (fun z55518 ez55518 => ?_)
            refine lv_goto (tgt := 127) hx hb dX2_readUnit_120 (by decide) ?_
            refine gf_v (wr := [(ed 0, .inl (cyB, 1600, .inl e_text)), (hp, .inr (1, [.ref (pd 0), .ref (pd 1), .ref (pd 2), .ref hf, .int p_mC, .int p_nC, .int p_kC, .int z55509, .int p_copy, .int p_loss, .int p_draw])), (hR, .inr (2, [.ref (ed 0), .int e_length, .int e_at, .ref hp, .int e_kind, .int e_start, .int e_number, .long e_name, .int e_told, .int e_faultKind, .int e_faultPlace]))]) (va_runV (As := [.int z55518]) (rest := []) hfix (k_Fo_add l dC dI cyB cyI cyJ cyZ cyO hf fd f_steps f_length z55518 _ (by first | omega | assumption) (by first | omega | assumption)) (cwV 1 hts (gi_V (ow_m (k := 9) rfl) (ow_m (k := 10) rfl) (ow_m (k := 11) rfl) (ow_m (k := 12) rfl) (sb_c (sb_r sb_l)) gd_k_Fo_add) rfl rfl rfl (by decide +kernel) ⟨Nat.le_of_ble_eq_true rfl, Nat.le_of_ble_eq_true rfl⟩) (g_preV hKN hP hD [2, 3] rfl (by decide) 0 0 rfl rfl) rfl rfl hl.1 rfl (lv_room (Nat.le_of_ble_eq_true rfl)) dX2_readUnit_127 ⟨Nat.le_of_ble_eq_true rfl, Nat.le_of_ble_eq_true rfl⟩) hP hD hS hA [2, 3] [0, 1, 4] rfl rfl (by decide) (by decide) (fun u55520 H locs qu55520 hP hD hS => ?_)
            obtain ⟨b55521, b55522⟩ := qu55520
            have hP : va_P (dC, dI) vwCl [(ed 0, .inl (cyB, 1600, .inl e_text)), (hp, .inr (1, [.ref (pd 0), .ref (pd 1), .ref (pd 2), .ref hf, .int p_mC, .int p_nC, .int p_kC, .int z55509, .int p_copy, .int p_loss, .int p_draw])), (hR, .inr (2, [.ref (ed 0), .int e_length, .int e_at, .ref hp, .int e_kind, .int e_start, .int e_number, .long e_name, .int e_told, .int e_faultKind, .int e_faultPlace])), (hf, .inr (0, [.ref (fd 0), .ref (fd 1), .ref (fd 2), .int (u55520.2.1 0)])), (fd 0, .inl (cyI, 270, .inl (u55520.1 0)))] H := hP
            have hD : va_D A [(ed 0, .inl (cyB, 1600, .inl e_text)), (hp, .inr (1, [.ref (pd 0), .ref (pd 1), .ref (pd 2), .ref hf, .int p_mC, .int p_nC, .int p_kC, .int z55509, .int p_copy, .int p_loss, .int p_draw])), (hR, .inr (2, [.ref (ed 0), .int e_length, .int e_at, .ref hp, .int e_kind, .int e_start, .int e_number, .long e_name, .int e_told, .int e_faultKind, .int e_faultPlace])), (hf, .inr (0, [.ref (fd 0), .ref (fd 1), .ref (fd 2), .int (u55520.2.1 0)])), (fd 0, .inl (cyI, 270, .inl (u55520.1 0)))] := hD
            refine lv_aload_n hx hb dX2_readUnit_130 rfl (lv_at hl 1 rfl) ?_
            refine gf_v (wr := [(hp, .inr (1, [.ref (pd 0), .ref (pd 1), .ref (pd 2), .ref hf, .int p_mC, .int p_nC, .int p_kC, .int z55509, .int p_copy, .int p_loss, .int p_draw])), (hf, .inr (0, [.ref (fd 0), .ref (fd 1), .ref (fd 2), .int (u55520.2.1 0)])), (fd 0, .inl (cyI, 270, .inl (u55520.1 0)))]) (va_runV (As := []) (rest := []) hfix (k_Re_advance l dC dI cyB cyI cyJ cyZ cyO adK adV hR ed e_text e_length e_at e_kind e_start e_number e_told e_faultKind e_faultPlace e_name hp _ (by first | omega | assumption) (by first | omega | assumption) (by first | omega | assumption) (by first | omega | assumption) (by first | omega | assumption) (by first | omega | assumption) (by first | omega | assumption) (by first | omega | assumption)) (cwV 0 hts (gi_V (ow_m (k := 13) rfl) (ow_m (k := 14) rfl) (ow_m (k := 15) rfl) (ow_m (k := 6) rfl) (sb_c (sb_r (sb_r sb_l))) gd_k_Re_advance) rfl rfl rfl (by decide +kernel) ⟨Nat.le_of_ble_eq_true rfl, Nat.le_of_ble_eq_true rfl⟩) (g_preVZ hZ hS hA hKN hP hD [2, 0] rfl (by decide) 0 2 rfl rfl) rfl rfl hl.1 rfl (lv_room (Nat.le_of_ble_eq_true rfl)) dX2_readUnit_131 ⟨Nat.le_of_ble_eq_true rfl, Nat.le_of_ble_eq_true rfl⟩) hP hD hS hA [2, 0] [1, 3, 4] rfl rfl (by decide) (by decide) (fun u55524 H locs qu55524 hP hD hS => ?_)
            obtain ⟨b55525, b55526, b55527, b55528, b55529, b55530⟩ := qu55524
            have hP : va_P (dC, dI) vwCl [(hp, .inr (1, [.ref (pd 0), .ref (pd 1), .ref (pd 2), .ref hf, .int p_mC, .int p_nC, .int p_kC, .int z55509, .int p_copy, .int p_loss, .int p_draw])), (hf, .inr (0, [.ref (fd 0), .ref (fd 1), .ref (fd 2), .int (u55520.2.1 0)])), (fd 0, .inl (cyI, 270, .inl (u55520.1 0))), (hR, .inr (2, [.ref (ed 0), .int e_length, .int (u55524.2.1 0), .ref hp, .int (u55524.2.1 1), .int (u55524.2.1 2), .int (u55524.2.1 3), .long (u55524.2.2.1 0), .int e_told, .int e_faultKind, .int e_faultPlace])), (ed 0, .inl (cyB, 1600, .inl e_text))] H := hP
            have hD : va_D A [(hp, .inr (1, [.ref (pd 0), .ref (pd 1), .ref (pd 2), .ref hf, .int p_mC, .int p_nC, .int p_kC, .int z55509, .int p_copy, .int p_loss, .int p_draw])), (hf, .inr (0, [.ref (fd 0), .ref (fd 1), .ref (fd 2), .int (u55520.2.1 0)])), (fd 0, .inl (cyI, 270, .inl (u55520.1 0))), (hR, .inr (2, [.ref (ed 0), .int e_length, .int (u55524.2.1 0), .ref hp, .int (u55524.2.1 1), .int (u55524.2.1 2), .int (u55524.2.1 3), .long (u55524.2.2.1 0), .int e_told, .int e_faultKind, .int e_faultPlace])), (ed 0, .inl (cyB, 1600, .inl e_text))] := hD
            have w55531 : 0 ≤ (u55524.2.1 0).toInt := by first | omega | assumption | rfl | (intros; rfl)
            have w55532 : (u55524.2.1 0).toInt ≤ 1600 := by first | omega | assumption | rfl | (intros; rfl)
            have w55533 : 0 ≤ (u55524.2.1 1).toInt := by first | omega | assumption | rfl | (intros; rfl)
            have w55534 : (u55524.2.1 1).toInt ≤ 5 := by first | omega | assumption | rfl | (intros; rfl)
            have w55535 : 0 ≤ (u55524.2.1 2).toInt := by first | omega | assumption | rfl | (intros; rfl)
            have w55536 : (u55524.2.1 2).toInt ≤ 1600 := by first | omega | assumption | rfl | (intros; rfl)
            have w55537 : 0 ≤ (u55520.2.1 0).toInt := by first | omega | assumption | rfl | (intros; rfl)
            have w55538 : (u55520.2.1 0).toInt ≤ 270 := by first | omega | assumption | rfl | (intros; rfl)
            have w55539 : e_faultKind.toInt = 0 → e_faultKind.toInt = 0 := by first | omega | assumption | rfl | (intros; rfl)
            exact W.vret hx hb hr (fun t ht hW => ⟨⟨((fun _ => u55520.1 0), (fun k => match k with | 0 => u55524.2.1 0 | 1 => u55524.2.1 1 | 2 => u55524.2.1 2 | 3 => u55524.2.1 3 | 4 => e_faultKind | 5 => e_faultPlace | 6 => z55509 | _ => u55520.2.1 0), (fun _ => u55524.2.2.1 0), (fun _ => fun _ => 0)), rfl, ⟨w55531, w55532, w55533, w55534, w55535, w55536, w55537, w55538, w55539⟩, cE.of ht hP hD [3, 4, 0, 1, 2] (by decide) rfl⟩, hS.F ht⟩) hS.2.2 dX2_readUnit_134
        · have c55515 := i_ne (a := r55511.toInt) (b := 0) c55515 rfl (by decide)
          refine lv_aload_n hx hb dX2_readUnit_93 rfl (lv_at hl 1 rfl) ?_
          refine lv_iload_n hx hb dX2_readUnit_94 rfl (lv_at hl 2 rfl) ?_
          refine gf_v (wr := [(ed 0, .inl (cyB, 1600, .inl e_text)), (fd 0, .inl (cyI, 270, .inl f_steps))]) (va_runV (As := [.int 7]) (rest := []) hfix (k_Re_readWithin_7 l dC dI cyB cyI cyJ cyZ cyO adK adV hR ed e_length e_at e_kind e_start e_number e_told e_faultKind e_faultPlace e_name hp pd p_mC p_nC p_kC z55509 p_copy p_loss p_draw hf fd f_length _ (by first | omega | assumption) (by first | omega | assumption) (by first | omega | assumption) (by first | omega | assumption) (by first | omega | assumption) (by first | omega | assumption) (by first | omega | assumption) (by first | omega | assumption) (by first | omega | assumption) (by first | omega | assumption) (by first | omega | assumption) (by first | omega | assumption) (by first | omega | assumption) (by first | omega | assumption) (by first | omega | assumption) (by first | omega | assumption)) (cwV 1 hts (gi_V (ow_m (k := 16) rfl) (ow_m (k := 17) rfl) (ow_m (k := 18) rfl) (ow_m (k := 6) rfl) (sb_c (sb_r (sb_r (sb_r sb_l)))) gd_k_Re_readWithin_7) rfl rfl rfl (by decide +kernel) ⟨Nat.le_of_ble_eq_true rfl, Nat.le_of_ble_eq_true rfl⟩) (g_preVZ hZ hS hA hKN hP hD [4, 1, 2] rfl (by decide) 0 2 rfl rfl) rfl rfl hl.1 rfl (lv_room (Nat.le_of_ble_eq_true rfl)) dX2_readUnit_95 ⟨Nat.le_of_ble_eq_true rfl, Nat.le_of_ble_eq_true rfl⟩) hP hD hS hA [4, 1, 2] [0, 3] rfl rfl (by decide) (by decide) (fun u55541 H locs qu55541 hP hD hS => ?_)
          have b55542 := qu55541
          have hP : va_P (dC, dI) vwCl [(ed 0, .inl (cyB, 1600, .inl e_text)), (fd 0, .inl (cyI, 270, .inl f_steps)), (hR, .inr (2, [.ref (ed 0), .int e_length, .int e_at, .ref hp, .int e_kind, .int e_start, .int e_number, .long e_name, .int e_told, .int (u55541.2.1 0), .int (u55541.2.1 1)])), (hp, .inr (1, [.ref (pd 0), .ref (pd 1), .ref (pd 2), .ref hf, .int p_mC, .int p_nC, .int p_kC, .int z55509, .int p_copy, .int p_loss, .int p_draw])), (hf, .inr (0, [.ref (fd 0), .ref (fd 1), .ref (fd 2), .int f_length]))] H := hP
          have hD : va_D A [(ed 0, .inl (cyB, 1600, .inl e_text)), (fd 0, .inl (cyI, 270, .inl f_steps)), (hR, .inr (2, [.ref (ed 0), .int e_length, .int e_at, .ref hp, .int e_kind, .int e_start, .int e_number, .long e_name, .int e_told, .int (u55541.2.1 0), .int (u55541.2.1 1)])), (hp, .inr (1, [.ref (pd 0), .ref (pd 1), .ref (pd 2), .ref hf, .int p_mC, .int p_nC, .int p_kC, .int z55509, .int p_copy, .int p_loss, .int p_draw])), (hf, .inr (0, [.ref (fd 0), .ref (fd 1), .ref (fd 2), .int f_length]))] := hD
          have w55543 : 0 ≤ e_at.toInt := by first | omega | assumption | rfl | (intros; rfl)
          have w55544 : e_at.toInt ≤ 1600 := by first | omega | assumption | rfl | (intros; rfl)
          have w55545 : 0 ≤ e_kind.toInt := by first | omega | assumption | rfl | (intros; rfl)
          have w55546 : e_kind.toInt ≤ 5 := by first | omega | assumption | rfl | (intros; rfl)
          have w55547 : 0 ≤ e_start.toInt := by first | omega | assumption | rfl | (intros; rfl)
          have w55548 : e_start.toInt ≤ 1600 := by first | omega | assumption | rfl | (intros; rfl)
          have w55549 : 0 ≤ f_length.toInt := by first | omega | assumption | rfl | (intros; rfl)
          have w55550 : f_length.toInt ≤ 270 := by first | omega | assumption | rfl | (intros; rfl)
          have w55551 : (u55541.2.1 0).toInt = 0 → e_faultKind.toInt = 0 := by first | omega | assumption | rfl | (intros; rfl)
          exact W.vret hx hb hr (fun t ht hW => ⟨⟨((fun _ => f_steps), (fun k => match k with | 0 => e_at | 1 => e_kind | 2 => e_start | 3 => e_number | 4 => u55541.2.1 0 | 5 => u55541.2.1 1 | 6 => z55509 | _ => f_length), (fun _ => e_name), (fun _ => fun _ => 0)), rfl, ⟨w55543, w55544, w55545, w55546, w55547, w55548, w55549, w55550, w55551⟩, cE.of ht hP hD [2, 0, 3, 4, 1] (by decide) rfl⟩, hS.F ht⟩) hS.2.2 dX2_readUnit_98
      · have c55508 := i_nlt (a := p_units.toInt) (b := 30) c55508 rfl (by decide)
        refine lv_aload_n hx hb dX2_readUnit_65 rfl (lv_at hl 1 rfl) ?_
        refine lv_iconst (v := 2) hx hb dX2_readUnit_66 (by decide) ?_
        refine gf_v (wr := [(ed 0, .inl (cyB, 1600, .inl e_text)), (hp, .inr (1, [.ref (pd 0), .ref (pd 1), .ref (pd 2), .ref hf, .int p_mC, .int p_nC, .int p_kC, .int p_units, .int p_copy, .int p_loss, .int p_draw])), (hf, .inr (0, [.ref (fd 0), .ref (fd 1), .ref (fd 2), .int f_length])), (fd 0, .inl (cyI, 270, .inl f_steps))]) (va_runV (As := [.int 2]) (rest := []) hfix (k_Re_refuse l dC dI cyB cyI cyJ cyZ cyO hR ed e_length e_at e_kind e_start e_number e_told e_faultKind e_faultPlace e_name (2 : Int32) hp _ (by first | omega | assumption) (by first | omega | assumption) (by first | omega | assumption) (by first | omega | assumption) (by first | omega | assumption) (by first | omega | assumption) (by first | omega | assumption) (by first | omega | assumption) (by first | omega | assumption) (by first | omega | assumption)) (cwV 1 hts (gi_V (ow_m (k := 19) rfl) (ow_m (k := 20) rfl) (ow_m (k := 21) rfl) (ow_m (k := 6) rfl) (sb_c (sb_r (sb_r (sb_r (sb_r sb_l))))) gd_k_Re_refuse) rfl rfl rfl (by decide +kernel) ⟨Nat.le_of_ble_eq_true rfl, Nat.le_of_ble_eq_true rfl⟩) (g_preV hKN hP hD [0] rfl (by decide) 0 2 rfl rfl) rfl rfl hl.1 rfl (lv_room (Nat.le_of_ble_eq_true rfl)) dX2_readUnit_67 ⟨Nat.le_of_ble_eq_true rfl, Nat.le_of_ble_eq_true rfl⟩) hP hD hS hA [0] [1, 2, 3, 4] rfl rfl (by decide) (by decide) (fun u55553 H locs qu55553 hP hD hS => ?_)
        have b55554 := qu55553
        have hP : va_P (dC, dI) vwCl [(ed 0, .inl (cyB, 1600, .inl e_text)), (hp, .inr (1, [.ref (pd 0), .ref (pd 1), .ref (pd 2), .ref hf, .int p_mC, .int p_nC, .int p_kC, .int p_units, .int p_copy, .int p_loss, .int p_draw])), (hf, .inr (0, [.ref (fd 0), .ref (fd 1), .ref (fd 2), .int f_length])), (fd 0, .inl (cyI, 270, .inl f_steps)), (hR, .inr (2, [.ref (ed 0), .int e_length, .int e_at, .ref hp, .int e_kind, .int e_start, .int e_number, .long e_name, .int e_told, .int (u55553.2.1 0), .int (u55553.2.1 1)]))] H := hP
        have hD : va_D A [(ed 0, .inl (cyB, 1600, .inl e_text)), (hp, .inr (1, [.ref (pd 0), .ref (pd 1), .ref (pd 2), .ref hf, .int p_mC, .int p_nC, .int p_kC, .int p_units, .int p_copy, .int p_loss, .int p_draw])), (hf, .inr (0, [.ref (fd 0), .ref (fd 1), .ref (fd 2), .int f_length])), (fd 0, .inl (cyI, 270, .inl f_steps)), (hR, .inr (2, [.ref (ed 0), .int e_length, .int e_at, .ref hp, .int e_kind, .int e_start, .int e_number, .long e_name, .int e_told, .int (u55553.2.1 0), .int (u55553.2.1 1)]))] := hD
        have w55555 : 0 ≤ e_at.toInt := by first | omega | assumption | rfl | (intros; rfl)
        have w55556 : e_at.toInt ≤ 1600 := by first | omega | assumption | rfl | (intros; rfl)
        have w55557 : 0 ≤ e_kind.toInt := by first | omega | assumption | rfl | (intros; rfl)
        have w55558 : e_kind.toInt ≤ 5 := by first | omega | assumption | rfl | (intros; rfl)
        have w55559 : 0 ≤ e_start.toInt := by first | omega | assumption | rfl | (intros; rfl)
        have w55560 : e_start.toInt ≤ 1600 := by first | omega | assumption | rfl | (intros; rfl)
        have w55561 : 0 ≤ f_length.toInt := by first | omega | assumption | rfl | (intros; rfl)
        have w55562 : f_length.toInt ≤ 270 := by first | omega | assumption | rfl | (intros; rfl)
        have w55563 : (u55553.2.1 0).toInt = 0 → e_faultKind.toInt = 0 := by first | omega | assumption | rfl | (intros; rfl)
        exact W.vret hx hb hr (fun t ht hW => ⟨⟨((fun _ => f_steps), (fun k => match k with | 0 => e_at | 1 => e_kind | 2 => e_start | 3 => e_number | 4 => u55553.2.1 0 | 5 => u55553.2.1 1 | 6 => p_units | _ => f_length), (fun _ => e_name), (fun _ => fun _ => 0)), rfl, ⟨w55555, w55556, w55557, w55558, w55559, w55560, w55561, w55562, w55563⟩, cE.of ht hP hD [4, 0, 1, 2, 3] (by decide) rfl⟩, hS.F ht⟩) hS.2.2 dX2_readUnit_70
    · have c55507 := i_eq (a := v55504.toInt) (b := 0) c55507 rfl (by decide)
      refine lv_aload_n hx hb dX2_readUnit_36 rfl (lv_at hl 1 rfl) ?_
      refine va_get (D := (dC, dI)) (ci := 2) (v := .int e_kind) (C := RX2) (T := TX2) (N := 11) hx hb hts hi2 hown hK hP 0 rfl rfl 4 (by decide) (hts _ (ow_m (k := 0) rfl)) (fun _ h9 => h9) rfl dX2_readUnit_37 ?_
      refine lv_iconst (v := 3) hx hb dX2_readUnit_40 (by decide) ?_
      refine lv_icmp_eq (tgt := 53) hx hb dX2_readUnit_41 (by decide) (fun c55564 => ?_) (fun c55564 => ?_)
      · have c55564 := i_eq (a := e_kind.toInt) (b := 3) c55564 rfl (by decide)
        refine lv_aload_n hx hb dX2_readUnit_53 rfl (lv_at hl 1 rfl) ?_
        refine va_get (D := (dC, dI)) (ci := 2) (v := .ref hp) (C := RX2) (T := TX2) (N := 11) hx hb hts hi2 hown hK hP 0 rfl rfl 3 (by decide) (hts _ (ow_m (k := 1) rfl)) (fun _ h9 => h9) rfl dX2_readUnit_54 ?_
        refine va_get (D := (dC, dI)) (ci := 1) (v := .int p_units) (C := RX1) (T := TX1) (N := 11) hx hb hts hi1 hown hK hP 2 rfl rfl 7 (by decide) (hts _ (ow_m (k := 2) rfl)) (fun _ h9 => h9) rfl dX2_readUnit_57 ?_
        refine lv_bipush (v := 30) hx hb dX2_readUnit_60 (by decide) ?_
        refine lv_icmp_lt (tgt := 71) hx hb dX2_readUnit_62 (by decide) (fun c55565 => ?_) (fun c55565 => ?_)
        · have c55565 := i_lt (a := p_units.toInt) (b := 30) c55565 rfl (by decide)
          refine lv_aload_n hx hb dX2_readUnit_71 rfl (lv_at hl 1 rfl) ?_
          refine va_get (D := (dC, dI)) (ci := 2) (v := .ref hp) (C := RX2) (T := TX2) (N := 11) hx hb hts hi2 hown hK hP 0 rfl rfl 3 (by decide) (hts _ (ow_m (k := 1) rfl)) (fun _ h9 => h9) rfl dX2_readUnit_72 ?_
          refine lv_dup hx hb dX2_readUnit_75 rfl ?_
          refine va_get (D := (dC, dI)) (ci := 1) (v := .int p_units) (C := RX1) (T := TX1) (N := 11) hx hb hts hi1 hown hK hP 2 rfl rfl 7 (by decide) (hts _ (ow_m (k := 2) rfl)) (fun _ h9 => h9) rfl dX2_readUnit_76 ?_
          refine lv_iconst (v := 1) hx hb dX2_readUnit_79 (by decide) ?_
          refine lv_iadd hx hb dX2_readUnit_80 ?_
          refine lv_topi (fun z55566 ez55566 => ?_)
          have hby55567 := i_bd p_units
          have tz55566 := ti_add (a := p_units.toInt) (b := 1) ez55566 rfl (by decide) (by omega) (by omega)
          refine va_put (D := (dC, dI)) (ci := 1) (v := .int z55566) (ty := .int) (C := RX1) (T := TX1) (N := 11) hx hb hts hi1 tyX1 tyX1_ok nmX1 hown hK hP hD hS 2 rfl rfl 7 (by decide) (hts _ (ow_m (k := 2) rfl)) (fun _ h9 => h9) rfl (by decide +kernel) rfl rfl (Nat.le_of_ble_eq_true rfl) dX2_readUnit_81 (fun H locs hP hD hS => ?_)
          have hP : va_P (dC, dI) vwCl [(hR, .inr (2, [.ref (ed 0), .int e_length, .int e_at, .ref hp, .int e_kind, .int e_start, .int e_number, .long e_name, .int e_told, .int e_faultKind, .int e_faultPlace])), (ed 0, .inl (cyB, 1600, .inl e_text)), (hp, .inr (1, [.ref (pd 0), .ref (pd 1), .ref (pd 2), .ref hf, .int p_mC, .int p_nC, .int p_kC, .int z55566, .int p_copy, .int p_loss, .int p_draw])), (hf, .inr (0, [.ref (fd 0), .ref (fd 1), .ref (fd 2), .int f_length])), (fd 0, .inl (cyI, 270, .inl f_steps))] H := hP
          have hD : va_D A [(hR, .inr (2, [.ref (ed 0), .int e_length, .int e_at, .ref hp, .int e_kind, .int e_start, .int e_number, .long e_name, .int e_told, .int e_faultKind, .int e_faultPlace])), (ed 0, .inl (cyB, 1600, .inl e_text)), (hp, .inr (1, [.ref (pd 0), .ref (pd 1), .ref (pd 2), .ref hf, .int p_mC, .int p_nC, .int p_kC, .int z55566, .int p_copy, .int p_loss, .int p_draw])), (hf, .inr (0, [.ref (fd 0), .ref (fd 1), .ref (fd 2), .int f_length])), (fd 0, .inl (cyI, 270, .inl f_steps))] := hD
          refine lv_aload_n hx hb dX2_readUnit_84 rfl (lv_at hl 1 rfl) ?_
          refine lv_bipush (v := 40) hx hb dX2_readUnit_85 (by decide) ?_
          refine gf_i (wr := [(ed 0, .inl (cyB, 1600, .inl e_text)), (hp, .inr (1, [.ref (pd 0), .ref (pd 1), .ref (pd 2), .ref hf, .int p_mC, .int p_nC, .int p_kC, .int z55566, .int p_copy, .int p_loss, .int p_draw])), (hf, .inr (0, [.ref (fd 0), .ref (fd 1), .ref (fd 2), .int f_length])), (fd 0, .inl (cyI, 270, .inl f_steps))]) (va_runV (As := [.int 40]) (rest := []) hfix (k_Re_isSign l dC dI cyB cyI cyJ cyZ cyO hR ed e_length e_at e_kind e_start e_number e_told e_faultKind e_faultPlace e_name (40 : Int32) hp _ (by first | omega | assumption) (by first | omega | assumption) (by first | omega | assumption) (by first | omega | assumption) (by first | omega | assumption) (by first | omega | assumption) (by first | omega | assumption) (by first | omega | assumption)) (cwV 1 hts (gi_V (ow_m (k := 3) rfl) (ow_m (k := 4) rfl) (ow_m (k := 5) rfl) (ow_m (k := 6) rfl) (sb_c sb_l) gd_k_Re_isSign) rfl rfl rfl (by decide +kernel) ⟨Nat.le_of_ble_eq_true rfl, Nat.le_of_ble_eq_true rfl⟩) (g_preV hKN hP hD [0] rfl (by decide) 0 2 rfl rfl) rfl rfl hl.1 rfl (lv_room (Nat.le_of_ble_eq_true rfl)) dX2_readUnit_87 ⟨Nat.le_of_ble_eq_true rfl, Nat.le_of_ble_eq_true rfl⟩) hP hD hS hA [0] [1, 2, 3, 4] rfl rfl (by decide) (by decide) (fun r55568 u55569 H locs qu55569 hP hD hS => ?_)
          obtain ⟨b55570, b55571⟩ := qu55569
          have hP : va_P (dC, dI) vwCl [(ed 0, .inl (cyB, 1600, .inl e_text)), (hp, .inr (1, [.ref (pd 0), .ref (pd 1), .ref (pd 2), .ref hf, .int p_mC, .int p_nC, .int p_kC, .int z55566, .int p_copy, .int p_loss, .int p_draw])), (hf, .inr (0, [.ref (fd 0), .ref (fd 1), .ref (fd 2), .int f_length])), (fd 0, .inl (cyI, 270, .inl f_steps)), (hR, .inr (2, [.ref (ed 0), .int e_length, .int e_at, .ref hp, .int e_kind, .int e_start, .int e_number, .long e_name, .int e_told, .int e_faultKind, .int e_faultPlace]))] H := hP
          have hD : va_D A [(ed 0, .inl (cyB, 1600, .inl e_text)), (hp, .inr (1, [.ref (pd 0), .ref (pd 1), .ref (pd 2), .ref hf, .int p_mC, .int p_nC, .int p_kC, .int z55566, .int p_copy, .int p_loss, .int p_draw])), (hf, .inr (0, [.ref (fd 0), .ref (fd 1), .ref (fd 2), .int f_length])), (fd 0, .inl (cyI, 270, .inl f_steps)), (hR, .inr (2, [.ref (ed 0), .int e_length, .int e_at, .ref hp, .int e_kind, .int e_start, .int e_number, .long e_name, .int e_told, .int e_faultKind, .int e_faultPlace]))] := hD
          refine lv_if_eq (tgt := 99) hx hb dX2_readUnit_90 (by decide) (fun c55572 => ?_) (fun c55572 => ?_)
          · have c55572 := i_eq (a := r55568.toInt) (b := 0) c55572 rfl (by decide)
            refine lv_aload_n hx hb dX2_readUnit_99 rfl (lv_at hl 1 rfl) ?_
            refine va_get (D := (dC, dI)) (ci := 2) (v := .ref hp) (C := RX2) (T := TX2) (N := 11) hx hb hts hi2 hown hK hP 4 rfl rfl 3 (by decide) (hts _ (ow_m (k := 1) rfl)) (fun _ h9 => h9) rfl dX2_readUnit_100 ?_
            refine va_get (D := (dC, dI)) (ci := 1) (v := .ref hf) (C := RX1) (T := TX1) (N := 11) hx hb hts hi1 hown hK hP 1 rfl rfl 3 (by decide) (hts _ (ow_m (k := 7) rfl)) (fun _ h9 => h9) rfl dX2_readUnit_103 ?_
            refine lv_iload_n hx hb dX2_readUnit_106 rfl (lv_at hl 0 rfl) ?_
            refine lv_if_eq (tgt := 123) hx hb dX2_readUnit_107 (by decide) (fun c55573 => ?_) (fun c55573 => ?_)
            · have c55573 := i_eq (a := v55504.toInt) (b := 0) c55573 rfl (by decide)
              refine lv_aload_n hx hb dX2_readUnit_123 rfl (lv_at hl 1 rfl) ?_
              refine va_get (D := (dC, dI)) (ci := 2) (v := .int e_number) (C := RX2) (T := TX2) (N := 11) hx hb hts hi2 hown hK hP 4 rfl rfl 6 (by decide) (hts _ (ow_m (k := 8) rfl)) (fun _ h9 => h9) rfl dX2_readUnit_124 ?_
              refine gf_v (wr := [(ed 0, .inl (cyB, 1600, .inl e_text)), (hp, .inr (1, [.ref (pd 0), .ref (pd 1), .ref (pd 2), .ref hf, .int p_mC, .int p_nC, .int p_kC, .int z55566, .int p_copy, .int p_loss, .int p_draw])), (hR, .inr (2, [.ref (ed 0), .int e_length, .int e_at, .ref hp, .int e_kind, .int e_start, .int e_number, .long e_name, .int e_told, .int e_faultKind, .int e_faultPlace]))]) (va_runV (As := [.int e_number]) (rest := []) hfix (k_Fo_add l dC dI cyB cyI cyJ cyZ cyO hf fd f_steps f_length e_number _ (by first | omega | assumption) (by first | omega | assumption)) (cwV 1 hts (gi_V (ow_m (k := 9) rfl) (ow_m (k := 10) rfl) (ow_m (k := 11) rfl) (ow_m (k := 12) rfl) (sb_c (sb_r sb_l)) gd_k_Fo_add) rfl rfl rfl (by decide +kernel) ⟨Nat.le_of_ble_eq_true rfl, Nat.le_of_ble_eq_true rfl⟩) (g_preV hKN hP hD [2, 3] rfl (by decide) 0 0 rfl rfl) rfl rfl hl.1 rfl (lv_room (Nat.le_of_ble_eq_true rfl)) dX2_readUnit_127 ⟨Nat.le_of_ble_eq_true rfl, Nat.le_of_ble_eq_true rfl⟩) hP hD hS hA [2, 3] [0, 1, 4] rfl rfl (by decide) (by decide) (fun u55575 H locs qu55575 hP hD hS => ?_)
              obtain ⟨b55576, b55577⟩ := qu55575
              have hP : va_P (dC, dI) vwCl [(ed 0, .inl (cyB, 1600, .inl e_text)), (hp, .inr (1, [.ref (pd 0), .ref (pd 1), .ref (pd 2), .ref hf, .int p_mC, .int p_nC, .int p_kC, .int z55566, .int p_copy, .int p_loss, .int p_draw])), (hR, .inr (2, [.ref (ed 0), .int e_length, .int e_at, .ref hp, .int e_kind, .int e_start, .int e_number, .long e_name, .int e_told, .int e_faultKind, .int e_faultPlace])), (hf, .inr (0, [.ref (fd 0), .ref (fd 1), .ref (fd 2), .int (u55575.2.1 0)])), (fd 0, .inl (cyI, 270, .inl (u55575.1 0)))] H := hP
              have hD : va_D A [(ed 0, .inl (cyB, 1600, .inl e_text)), (hp, .inr (1, [.ref (pd 0), .ref (pd 1), .ref (pd 2), .ref hf, .int p_mC, .int p_nC, .int p_kC, .int z55566, .int p_copy, .int p_loss, .int p_draw])), (hR, .inr (2, [.ref (ed 0), .int e_length, .int e_at, .ref hp, .int e_kind, .int e_start, .int e_number, .long e_name, .int e_told, .int e_faultKind, .int e_faultPlace])), (hf, .inr (0, [.ref (fd 0), .ref (fd 1), .ref (fd 2), .int (u55575.2.1 0)])), (fd 0, .inl (cyI, 270, .inl (u55575.1 0)))] := hD
              refine lv_aload_n hx hb dX2_readUnit_130 rfl (lv_at hl 1 rfl) ?_
              refine gf_v (wr := [(hp, .inr (1, [.ref (pd 0), .ref (pd 1), .ref (pd 2), .ref hf, .int p_mC, .int p_nC, .int p_kC, .int z55566, .int p_copy, .int p_loss, .int p_draw])), (hf, .inr (0, [.ref (fd 0), .ref (fd 1), .ref (fd 2), .int (u55575.2.1 0)])), (fd 0, .inl (cyI, 270, .inl (u55575.1 0)))]) (va_runV (As := []) (rest := []) hfix (k_Re_advance l dC dI cyB cyI cyJ cyZ cyO adK adV hR ed e_text e_length e_at e_kind e_start e_number e_told e_faultKind e_faultPlace e_name hp _ (by first | omega | assumption) (by first | omega | assumption) (by first | omega | assumption) (by first | omega | assumption) (by first | omega | assumption) (by first | omega | assumption) (by first | omega | assumption) (by first | omega | assumption)) (cwV 0 hts (gi_V (ow_m (k := 13) rfl) (ow_m (k := 14) rfl) (ow_m (k := 15) rfl) (ow_m (k := 6) rfl) (sb_c (sb_r (sb_r sb_l))) gd_k_Re_advance) rfl rfl rfl (by decide +kernel) ⟨Nat.le_of_ble_eq_true rfl, Nat.le_of_ble_eq_true rfl⟩) (g_preVZ hZ hS hA hKN hP hD [2, 0] rfl (by decide) 0 2 rfl rfl) rfl rfl hl.1 rfl (lv_room (Nat.le_of_ble_eq_true rfl)) dX2_readUnit_131 ⟨Nat.le_of_ble_eq_true rfl, Nat.le_of_ble_eq_true rfl⟩) hP hD hS hA [2, 0] [1, 3, 4] rfl rfl (by decide) (by decide) (fun u55579 H locs qu55579 hP hD hS => ?_)
              obtain ⟨b55580, b55581, b55582, b55583, b55584, b55585⟩ := qu55579
              have hP : va_P (dC, dI) vwCl [(hp, .inr (1, [.ref (pd 0), .ref (pd 1), .ref (pd 2), .ref hf, .int p_mC, .int p_nC, .int p_kC, .int z55566, .int p_copy, .int p_loss, .int p_draw])), (hf, .inr (0, [.ref (fd 0), .ref (fd 1), .ref (fd 2), .int (u55575.2.1 0)])), (fd 0, .inl (cyI, 270, .inl (u55575.1 0))), (hR, .inr (2, [.ref (ed 0), .int e_length, .int (u55579.2.1 0), .ref hp, .int (u55579.2.1 1), .int (u55579.2.1 2), .int (u55579.2.1 3), .long (u55579.2.2.1 0), .int e_told, .int e_faultKind, .int e_faultPlace])), (ed 0, .inl (cyB, 1600, .inl e_text))] H := hP
              have hD : va_D A [(hp, .inr (1, [.ref (pd 0), .ref (pd 1), .ref (pd 2), .ref hf, .int p_mC, .int p_nC, .int p_kC, .int z55566, .int p_copy, .int p_loss, .int p_draw])), (hf, .inr (0, [.ref (fd 0), .ref (fd 1), .ref (fd 2), .int (u55575.2.1 0)])), (fd 0, .inl (cyI, 270, .inl (u55575.1 0))), (hR, .inr (2, [.ref (ed 0), .int e_length, .int (u55579.2.1 0), .ref hp, .int (u55579.2.1 1), .int (u55579.2.1 2), .int (u55579.2.1 3), .long (u55579.2.2.1 0), .int e_told, .int e_faultKind, .int e_faultPlace])), (ed 0, .inl (cyB, 1600, .inl e_text))] := hD
              have w55586 : 0 ≤ (u55579.2.1 0).toInt := by first | omega | assumption | rfl | (intros; rfl)
              have w55587 : (u55579.2.1 0).toInt ≤ 1600 := by first | omega | assumption | rfl | (intros; rfl)
              have w55588 : 0 ≤ (u55579.2.1 1).toInt := by first | omega | assumption | rfl | (intros; rfl)
              have w55589 : (u55579.2.1 1).toInt ≤ 5 := by first | omega | assumption | rfl | (intros; rfl)
              have w55590 : 0 ≤ (u55579.2.1 2).toInt := by first | omega | assumption | rfl | (intros; rfl)
              have w55591 : (u55579.2.1 2).toInt ≤ 1600 := by first | omega | assumption | rfl | (intros; rfl)
              have w55592 : 0 ≤ (u55575.2.1 0).toInt := by first | omega | assumption | rfl | (intros; rfl)
              have w55593 : (u55575.2.1 0).toInt ≤ 270 := by first | omega | assumption | rfl | (intros; rfl)
              have w55594 : e_faultKind.toInt = 0 → e_faultKind.toInt = 0 := by first | omega | assumption | rfl | (intros; rfl)
              exact W.vret hx hb hr (fun t ht hW => ⟨⟨((fun _ => u55575.1 0), (fun k => match k with | 0 => u55579.2.1 0 | 1 => u55579.2.1 1 | 2 => u55579.2.1 2 | 3 => u55579.2.1 3 | 4 => e_faultKind | 5 => e_faultPlace | 6 => z55566 | _ => u55575.2.1 0), (fun _ => u55579.2.2.1 0), (fun _ => fun _ => 0)), rfl, ⟨w55586, w55587, w55588, w55589, w55590, w55591, w55592, w55593, w55594⟩, cE.of ht hP hD [3, 4, 0, 1, 2] (by decide) rfl⟩, hS.F ht⟩) hS.2.2 dX2_readUnit_134
            · have c55573 := i_ne (a := v55504.toInt) (b := 0) c55573 rfl (by decide)
              exfalso; omega
          · have c55572 := i_ne (a := r55568.toInt) (b := 0) c55572 rfl (by decide)
            refine lv_aload_n hx hb dX2_readUnit_93 rfl (lv_at hl 1 rfl) ?_
            refine lv_iload_n hx hb dX2_readUnit_94 rfl (lv_at hl 2 rfl) ?_
            refine gf_v (wr := [(ed 0, .inl (cyB, 1600, .inl e_text)), (fd 0, .inl (cyI, 270, .inl f_steps))]) (va_runV (As := [.int 7]) (rest := []) hfix (k_Re_readWithin_7 l dC dI cyB cyI cyJ cyZ cyO adK adV hR ed e_length e_at e_kind e_start e_number e_told e_faultKind e_faultPlace e_name hp pd p_mC p_nC p_kC z55566 p_copy p_loss p_draw hf fd f_length _ (by first | omega | assumption) (by first | omega | assumption) (by first | omega | assumption) (by first | omega | assumption) (by first | omega | assumption) (by first | omega | assumption) (by first | omega | assumption) (by first | omega | assumption) (by first | omega | assumption) (by first | omega | assumption) (by first | omega | assumption) (by first | omega | assumption) (by first | omega | assumption) (by first | omega | assumption) (by first | omega | assumption) (by first | omega | assumption)) (cwV 1 hts (gi_V (ow_m (k := 16) rfl) (ow_m (k := 17) rfl) (ow_m (k := 18) rfl) (ow_m (k := 6) rfl) (sb_c (sb_r (sb_r (sb_r sb_l)))) gd_k_Re_readWithin_7) rfl rfl rfl (by decide +kernel) ⟨Nat.le_of_ble_eq_true rfl, Nat.le_of_ble_eq_true rfl⟩) (g_preVZ hZ hS hA hKN hP hD [4, 1, 2] rfl (by decide) 0 2 rfl rfl) rfl rfl hl.1 rfl (lv_room (Nat.le_of_ble_eq_true rfl)) dX2_readUnit_95 ⟨Nat.le_of_ble_eq_true rfl, Nat.le_of_ble_eq_true rfl⟩) hP hD hS hA [4, 1, 2] [0, 3] rfl rfl (by decide) (by decide) (fun u55596 H locs qu55596 hP hD hS => ?_)
            have b55597 := qu55596
            have hP : va_P (dC, dI) vwCl [(ed 0, .inl (cyB, 1600, .inl e_text)), (fd 0, .inl (cyI, 270, .inl f_steps)), (hR, .inr (2, [.ref (ed 0), .int e_length, .int e_at, .ref hp, .int e_kind, .int e_start, .int e_number, .long e_name, .int e_told, .int (u55596.2.1 0), .int (u55596.2.1 1)])), (hp, .inr (1, [.ref (pd 0), .ref (pd 1), .ref (pd 2), .ref hf, .int p_mC, .int p_nC, .int p_kC, .int z55566, .int p_copy, .int p_loss, .int p_draw])), (hf, .inr (0, [.ref (fd 0), .ref (fd 1), .ref (fd 2), .int f_length]))] H := hP
            have hD : va_D A [(ed 0, .inl (cyB, 1600, .inl e_text)), (fd 0, .inl (cyI, 270, .inl f_steps)), (hR, .inr (2, [.ref (ed 0), .int e_length, .int e_at, .ref hp, .int e_kind, .int e_start, .int e_number, .long e_name, .int e_told, .int (u55596.2.1 0), .int (u55596.2.1 1)])), (hp, .inr (1, [.ref (pd 0), .ref (pd 1), .ref (pd 2), .ref hf, .int p_mC, .int p_nC, .int p_kC, .int z55566, .int p_copy, .int p_loss, .int p_draw])), (hf, .inr (0, [.ref (fd 0), .ref (fd 1), .ref (fd 2), .int f_length]))] := hD
            have w55598 : 0 ≤ e_at.toInt := by first | omega | assumption | rfl | (intros; rfl)
            have w55599 : e_at.toInt ≤ 1600 := by first | omega | assumption | rfl | (intros; rfl)
            have w55600 : 0 ≤ e_kind.toInt := by first | omega | assumption | rfl | (intros; rfl)
            have w55601 : e_kind.toInt ≤ 5 := by first | omega | assumption | rfl | (intros; rfl)
            have w55602 : 0 ≤ e_start.toInt := by first | omega | assumption | rfl | (intros; rfl)
            have w55603 : e_start.toInt ≤ 1600 := by first | omega | assumption | rfl | (intros; rfl)
            have w55604 : 0 ≤ f_length.toInt := by first | omega | assumption | rfl | (intros; rfl)
            have w55605 : f_length.toInt ≤ 270 := by first | omega | assumption | rfl | (intros; rfl)
            have w55606 : (u55596.2.1 0).toInt = 0 → e_faultKind.toInt = 0 := by first | omega | assumption | rfl | (intros; rfl)
            exact W.vret hx hb hr (fun t ht hW => ⟨⟨((fun _ => f_steps), (fun k => match k with | 0 => e_at | 1 => e_kind | 2 => e_start | 3 => e_number | 4 => u55596.2.1 0 | 5 => u55596.2.1 1 | 6 => z55566 | _ => f_length), (fun _ => e_name), (fun _ => fun _ => 0)), rfl, ⟨w55598, w55599, w55600, w55601, w55602, w55603, w55604, w55605, w55606⟩, cE.of ht hP hD [2, 0, 3, 4, 1] (by decide) rfl⟩, hS.F ht⟩) hS.2.2 dX2_readUnit_98
        · have c55565 := i_nlt (a := p_units.toInt) (b := 30) c55565 rfl (by decide)
          refine lv_aload_n hx hb dX2_readUnit_65 rfl (lv_at hl 1 rfl) ?_
          refine lv_iconst (v := 2) hx hb dX2_readUnit_66 (by decide) ?_
          refine gf_v (wr := [(ed 0, .inl (cyB, 1600, .inl e_text)), (hp, .inr (1, [.ref (pd 0), .ref (pd 1), .ref (pd 2), .ref hf, .int p_mC, .int p_nC, .int p_kC, .int p_units, .int p_copy, .int p_loss, .int p_draw])), (hf, .inr (0, [.ref (fd 0), .ref (fd 1), .ref (fd 2), .int f_length])), (fd 0, .inl (cyI, 270, .inl f_steps))]) (va_runV (As := [.int 2]) (rest := []) hfix (k_Re_refuse l dC dI cyB cyI cyJ cyZ cyO hR ed e_length e_at e_kind e_start e_number e_told e_faultKind e_faultPlace e_name (2 : Int32) hp _ (by first | omega | assumption) (by first | omega | assumption) (by first | omega | assumption) (by first | omega | assumption) (by first | omega | assumption) (by first | omega | assumption) (by first | omega | assumption) (by first | omega | assumption) (by first | omega | assumption) (by first | omega | assumption)) (cwV 1 hts (gi_V (ow_m (k := 19) rfl) (ow_m (k := 20) rfl) (ow_m (k := 21) rfl) (ow_m (k := 6) rfl) (sb_c (sb_r (sb_r (sb_r (sb_r sb_l))))) gd_k_Re_refuse) rfl rfl rfl (by decide +kernel) ⟨Nat.le_of_ble_eq_true rfl, Nat.le_of_ble_eq_true rfl⟩) (g_preV hKN hP hD [0] rfl (by decide) 0 2 rfl rfl) rfl rfl hl.1 rfl (lv_room (Nat.le_of_ble_eq_true rfl)) dX2_readUnit_67 ⟨Nat.le_of_ble_eq_true rfl, Nat.le_of_ble_eq_true rfl⟩) hP hD hS hA [0] [1, 2, 3, 4] rfl rfl (by decide) (by decide) (fun u55608 H locs qu55608 hP hD hS => ?_)
          have b55609 := qu55608
          have hP : va_P (dC, dI) vwCl [(ed 0, .inl (cyB, 1600, .inl e_text)), (hp, .inr (1, [.ref (pd 0), .ref (pd 1), .ref (pd 2), .ref hf, .int p_mC, .int p_nC, .int p_kC, .int p_units, .int p_copy, .int p_loss, .int p_draw])), (hf, .inr (0, [.ref (fd 0), .ref (fd 1), .ref (fd 2), .int f_length])), (fd 0, .inl (cyI, 270, .inl f_steps)), (hR, .inr (2, [.ref (ed 0), .int e_length, .int e_at, .ref hp, .int e_kind, .int e_start, .int e_number, .long e_name, .int e_told, .int (u55608.2.1 0), .int (u55608.2.1 1)]))] H := hP
          have hD : va_D A [(ed 0, .inl (cyB, 1600, .inl e_text)), (hp, .inr (1, [.ref (pd 0), .ref (pd 1), .ref (pd 2), .ref hf, .int p_mC, .int p_nC, .int p_kC, .int p_units, .int p_copy, .int p_loss, .int p_draw])), (hf, .inr (0, [.ref (fd 0), .ref (fd 1), .ref (fd 2), .int f_length])), (fd 0, .inl (cyI, 270, .inl f_steps)), (hR, .inr (2, [.ref (ed 0), .int e_length, .int e_at, .ref hp, .int e_kind, .int e_start, .int e_number, .long e_name, .int e_told, .int (u55608.2.1 0), .int (u55608.2.1 1)]))] := hD
          have w55610 : 0 ≤ e_at.toInt := by first | omega | assumption | rfl | (intros; rfl)
          have w55611 : e_at.toInt ≤ 1600 := by first | omega | assumption | rfl | (intros; rfl)
          have w55612 : 0 ≤ e_kind.toInt := by first | omega | assumption | rfl | (intros; rfl)
          have w55613 : e_kind.toInt ≤ 5 := by first | omega | assumption | rfl | (intros; rfl)
          have w55614 : 0 ≤ e_start.toInt := by first | omega | assumption | rfl | (intros; rfl)
          have w55615 : e_start.toInt ≤ 1600 := by first | omega | assumption | rfl | (intros; rfl)
          have w55616 : 0 ≤ f_length.toInt := by first | omega | assumption | rfl | (intros; rfl)
          have w55617 : f_length.toInt ≤ 270 := by first | omega | assumption | rfl | (intros; rfl)
          have w55618 : (u55608.2.1 0).toInt = 0 → e_faultKind.toInt = 0 := by first | omega | assumption | rfl | (intros; rfl)
          exact W.vret hx hb hr (fun t ht hW => ⟨⟨((fun _ => f_steps), (fun k => match k with | 0 => e_at | 1 => e_kind | 2 => e_start | 3 => e_number | 4 => u55608.2.1 0 | 5 => u55608.2.1 1 | 6 => p_units | _ => f_length), (fun _ => e_name), (fun _ => fun _ => 0)), rfl, ⟨w55610, w55611, w55612, w55613, w55614, w55615, w55616, w55617, w55618⟩, cE.of ht hP hD [4, 0, 1, 2, 3] (by decide) rfl⟩, hS.F ht⟩) hS.2.2 dX2_readUnit_70
      · have c55564 := i_ne (a := e_kind.toInt) (b := 3) c55564 rfl (by decide)
        refine lv_aload_n hx hb dX2_readUnit_44 rfl (lv_at hl 1 rfl) ?_
        refine lv_bipush (v := 40) hx hb dX2_readUnit_45 (by decide) ?_
        refine gf_i (wr := [(ed 0, .inl (cyB, 1600, .inl e_text)), (hp, .inr (1, [.ref (pd 0), .ref (pd 1), .ref (pd 2), .ref hf, .int p_mC, .int p_nC, .int p_kC, .int p_units, .int p_copy, .int p_loss, .int p_draw])), (hf, .inr (0, [.ref (fd 0), .ref (fd 1), .ref (fd 2), .int f_length])), (fd 0, .inl (cyI, 270, .inl f_steps))]) (va_runV (As := [.int 40]) (rest := []) hfix (k_Re_isSign l dC dI cyB cyI cyJ cyZ cyO hR ed e_length e_at e_kind e_start e_number e_told e_faultKind e_faultPlace e_name (40 : Int32) hp _ (by first | omega | assumption) (by first | omega | assumption) (by first | omega | assumption) (by first | omega | assumption) (by first | omega | assumption) (by first | omega | assumption) (by first | omega | assumption) (by first | omega | assumption)) (cwV 1 hts (gi_V (ow_m (k := 3) rfl) (ow_m (k := 4) rfl) (ow_m (k := 5) rfl) (ow_m (k := 6) rfl) (sb_c sb_l) gd_k_Re_isSign) rfl rfl rfl (by decide +kernel) ⟨Nat.le_of_ble_eq_true rfl, Nat.le_of_ble_eq_true rfl⟩) (g_preV hKN hP hD [0] rfl (by decide) 0 2 rfl rfl) rfl rfl hl.1 rfl (lv_room (Nat.le_of_ble_eq_true rfl)) dX2_readUnit_47 ⟨Nat.le_of_ble_eq_true rfl, Nat.le_of_ble_eq_true rfl⟩) hP hD hS hA [0] [1, 2, 3, 4] rfl rfl (by decide) (by decide) (fun r55619 u55620 H locs qu55620 hP hD hS => ?_)
        obtain ⟨b55621, b55622⟩ := qu55620
        have hP : va_P (dC, dI) vwCl [(ed 0, .inl (cyB, 1600, .inl e_text)), (hp, .inr (1, [.ref (pd 0), .ref (pd 1), .ref (pd 2), .ref hf, .int p_mC, .int p_nC, .int p_kC, .int p_units, .int p_copy, .int p_loss, .int p_draw])), (hf, .inr (0, [.ref (fd 0), .ref (fd 1), .ref (fd 2), .int f_length])), (fd 0, .inl (cyI, 270, .inl f_steps)), (hR, .inr (2, [.ref (ed 0), .int e_length, .int e_at, .ref hp, .int e_kind, .int e_start, .int e_number, .long e_name, .int e_told, .int e_faultKind, .int e_faultPlace]))] H := hP
        have hD : va_D A [(ed 0, .inl (cyB, 1600, .inl e_text)), (hp, .inr (1, [.ref (pd 0), .ref (pd 1), .ref (pd 2), .ref hf, .int p_mC, .int p_nC, .int p_kC, .int p_units, .int p_copy, .int p_loss, .int p_draw])), (hf, .inr (0, [.ref (fd 0), .ref (fd 1), .ref (fd 2), .int f_length])), (fd 0, .inl (cyI, 270, .inl f_steps)), (hR, .inr (2, [.ref (ed 0), .int e_length, .int e_at, .ref hp, .int e_kind, .int e_start, .int e_number, .long e_name, .int e_told, .int e_faultKind, .int e_faultPlace]))] := hD
        refine lv_if_eq (tgt := 65) hx hb dX2_readUnit_50 (by decide) (fun c55623 => ?_) (fun c55623 => ?_)
        · have c55623 := i_eq (a := r55619.toInt) (b := 0) c55623 rfl (by decide)
          refine lv_aload_n hx hb dX2_readUnit_65 rfl (lv_at hl 1 rfl) ?_
          refine lv_iconst (v := 2) hx hb dX2_readUnit_66 (by decide) ?_
          refine gf_v (wr := [(ed 0, .inl (cyB, 1600, .inl e_text)), (hp, .inr (1, [.ref (pd 0), .ref (pd 1), .ref (pd 2), .ref hf, .int p_mC, .int p_nC, .int p_kC, .int p_units, .int p_copy, .int p_loss, .int p_draw])), (hf, .inr (0, [.ref (fd 0), .ref (fd 1), .ref (fd 2), .int f_length])), (fd 0, .inl (cyI, 270, .inl f_steps))]) (va_runV (As := [.int 2]) (rest := []) hfix (k_Re_refuse l dC dI cyB cyI cyJ cyZ cyO hR ed e_length e_at e_kind e_start e_number e_told e_faultKind e_faultPlace e_name (2 : Int32) hp _ (by first | omega | assumption) (by first | omega | assumption) (by first | omega | assumption) (by first | omega | assumption) (by first | omega | assumption) (by first | omega | assumption) (by first | omega | assumption) (by first | omega | assumption) (by first | omega | assumption) (by first | omega | assumption)) (cwV 1 hts (gi_V (ow_m (k := 19) rfl) (ow_m (k := 20) rfl) (ow_m (k := 21) rfl) (ow_m (k := 6) rfl) (sb_c (sb_r (sb_r (sb_r (sb_r sb_l))))) gd_k_Re_refuse) rfl rfl rfl (by decide +kernel) ⟨Nat.le_of_ble_eq_true rfl, Nat.le_of_ble_eq_true rfl⟩) (g_preV hKN hP hD [4] rfl (by decide) 0 2 rfl rfl) rfl rfl hl.1 rfl (lv_room (Nat.le_of_ble_eq_true rfl)) dX2_readUnit_67 ⟨Nat.le_of_ble_eq_true rfl, Nat.le_of_ble_eq_true rfl⟩) hP hD hS hA [4] [0, 1, 2, 3] rfl rfl (by decide) (by decide) (fun u55625 H locs qu55625 hP hD hS => ?_)
          have b55626 := qu55625
          have hP : va_P (dC, dI) vwCl [(ed 0, .inl (cyB, 1600, .inl e_text)), (hp, .inr (1, [.ref (pd 0), .ref (pd 1), .ref (pd 2), .ref hf, .int p_mC, .int p_nC, .int p_kC, .int p_units, .int p_copy, .int p_loss, .int p_draw])), (hf, .inr (0, [.ref (fd 0), .ref (fd 1), .ref (fd 2), .int f_length])), (fd 0, .inl (cyI, 270, .inl f_steps)), (hR, .inr (2, [.ref (ed 0), .int e_length, .int e_at, .ref hp, .int e_kind, .int e_start, .int e_number, .long e_name, .int e_told, .int (u55625.2.1 0), .int (u55625.2.1 1)]))] H := hP
          have hD : va_D A [(ed 0, .inl (cyB, 1600, .inl e_text)), (hp, .inr (1, [.ref (pd 0), .ref (pd 1), .ref (pd 2), .ref hf, .int p_mC, .int p_nC, .int p_kC, .int p_units, .int p_copy, .int p_loss, .int p_draw])), (hf, .inr (0, [.ref (fd 0), .ref (fd 1), .ref (fd 2), .int f_length])), (fd 0, .inl (cyI, 270, .inl f_steps)), (hR, .inr (2, [.ref (ed 0), .int e_length, .int e_at, .ref hp, .int e_kind, .int e_start, .int e_number, .long e_name, .int e_told, .int (u55625.2.1 0), .int (u55625.2.1 1)]))] := hD
          have w55627 : 0 ≤ e_at.toInt := by first | omega | assumption | rfl | (intros; rfl)
          have w55628 : e_at.toInt ≤ 1600 := by first | omega | assumption | rfl | (intros; rfl)
          have w55629 : 0 ≤ e_kind.toInt := by first | omega | assumption | rfl | (intros; rfl)
          have w55630 : e_kind.toInt ≤ 5 := by first | omega | assumption | rfl | (intros; rfl)
          have w55631 : 0 ≤ e_start.toInt := by first | omega | assumption | rfl | (intros; rfl)
          have w55632 : e_start.toInt ≤ 1600 := by first | omega | assumption | rfl | (intros; rfl)
          have w55633 : 0 ≤ f_length.toInt := by first | omega | assumption | rfl | (intros; rfl)
          have w55634 : f_length.toInt ≤ 270 := by first | omega | assumption | rfl | (intros; rfl)
          have w55635 : (u55625.2.1 0).toInt = 0 → e_faultKind.toInt = 0 := by first | omega | assumption | rfl | (intros; rfl)
          exact W.vret hx hb hr (fun t ht hW => ⟨⟨((fun _ => f_steps), (fun k => match k with | 0 => e_at | 1 => e_kind | 2 => e_start | 3 => e_number | 4 => u55625.2.1 0 | 5 => u55625.2.1 1 | 6 => p_units | _ => f_length), (fun _ => e_name), (fun _ => fun _ => 0)), rfl, ⟨w55627, w55628, w55629, w55630, w55631, w55632, w55633, w55634, w55635⟩, cE.of ht hP hD [4, 0, 1, 2, 3] (by decide) rfl⟩, hS.F ht⟩) hS.2.2 dX2_readUnit_70
        · have c55623 := i_ne (a := r55619.toInt) (b := 0) c55623 rfl (by decide)
          refine lv_aload_n hx hb dX2_readUnit_53 rfl (lv_at hl 1 rfl) ?_
          refine va_get (D := (dC, dI)) (ci := 2) (v := .ref hp) (C := RX2) (T := TX2) (N := 11) hx hb hts hi2 hown hK hP 4 rfl rfl 3 (by decide) (hts _ (ow_m (k := 1) rfl)) (fun _ h9 => h9) rfl dX2_readUnit_54 ?_
          refine va_get (D := (dC, dI)) (ci := 1) (v := .int p_units) (C := RX1) (T := TX1) (N := 11) hx hb hts hi1 hown hK hP 1 rfl rfl 7 (by decide) (hts _ (ow_m (k := 2) rfl)) (fun _ h9 => h9) rfl dX2_readUnit_57 ?_
          refine lv_bipush (v := 30) hx hb dX2_readUnit_60 (by decide) ?_
          refine lv_icmp_lt (tgt := 71) hx hb dX2_readUnit_62 (by decide) (fun c55636 => ?_) (fun c55636 => ?_)
          · have c55636 := i_lt (a := p_units.toInt) (b := 30) c55636 rfl (by decide)
            refine lv_aload_n hx hb dX2_readUnit_71 rfl (lv_at hl 1 rfl) ?_
            refine va_get (D := (dC, dI)) (ci := 2) (v := .ref hp) (C := RX2) (T := TX2) (N := 11) hx hb hts hi2 hown hK hP 4 rfl rfl 3 (by decide) (hts _ (ow_m (k := 1) rfl)) (fun _ h9 => h9) rfl dX2_readUnit_72 ?_
            refine lv_dup hx hb dX2_readUnit_75 rfl ?_
            refine va_get (D := (dC, dI)) (ci := 1) (v := .int p_units) (C := RX1) (T := TX1) (N := 11) hx hb hts hi1 hown hK hP 1 rfl rfl 7 (by decide) (hts _ (ow_m (k := 2) rfl)) (fun _ h9 => h9) rfl dX2_readUnit_76 ?_
            refine lv_iconst (v := 1) hx hb dX2_readUnit_79 (by decide) ?_
            refine lv_iadd hx hb dX2_readUnit_80 ?_
            refine lv_topi (fun z55637 ez55637 => ?_)
            have hby55638 := i_bd p_units
            have tz55637 := ti_add (a := p_units.toInt) (b := 1) ez55637 rfl (by decide) (by omega) (by omega)
            refine va_put (D := (dC, dI)) (ci := 1) (v := .int z55637) (ty := .int) (C := RX1) (T := TX1) (N := 11) hx hb hts hi1 tyX1 tyX1_ok nmX1 hown hK hP hD hS 1 rfl rfl 7 (by decide) (hts _ (ow_m (k := 2) rfl)) (fun _ h9 => h9) rfl (by decide +kernel) rfl rfl (Nat.le_of_ble_eq_true rfl) dX2_readUnit_81 (fun H locs hP hD hS => ?_)
            have hP : va_P (dC, dI) vwCl [(ed 0, .inl (cyB, 1600, .inl e_text)), (hp, .inr (1, [.ref (pd 0), .ref (pd 1), .ref (pd 2), .ref hf, .int p_mC, .int p_nC, .int p_kC, .int z55637, .int p_copy, .int p_loss, .int p_draw])), (hf, .inr (0, [.ref (fd 0), .ref (fd 1), .ref (fd 2), .int f_length])), (fd 0, .inl (cyI, 270, .inl f_steps)), (hR, .inr (2, [.ref (ed 0), .int e_length, .int e_at, .ref hp, .int e_kind, .int e_start, .int e_number, .long e_name, .int e_told, .int e_faultKind, .int e_faultPlace]))] H := hP
            have hD : va_D A [(ed 0, .inl (cyB, 1600, .inl e_text)), (hp, .inr (1, [.ref (pd 0), .ref (pd 1), .ref (pd 2), .ref hf, .int p_mC, .int p_nC, .int p_kC, .int z55637, .int p_copy, .int p_loss, .int p_draw])), (hf, .inr (0, [.ref (fd 0), .ref (fd 1), .ref (fd 2), .int f_length])), (fd 0, .inl (cyI, 270, .inl f_steps)), (hR, .inr (2, [.ref (ed 0), .int e_length, .int e_at, .ref hp, .int e_kind, .int e_start, .int e_number, .long e_name, .int e_told, .int e_faultKind, .int e_faultPlace]))] := hD
            refine lv_aload_n hx hb dX2_readUnit_84 rfl (lv_at hl 1 rfl) ?_
            refine lv_bipush (v := 40) hx hb dX2_readUnit_85 (by decide) ?_
            refine gf_i (wr := [(ed 0, .inl (cyB, 1600, .inl e_text)), (hp, .inr (1, [.ref (pd 0), .ref (pd 1), .ref (pd 2), .ref hf, .int p_mC, .int p_nC, .int p_kC, .int z55637, .int p_copy, .int p_loss, .int p_draw])), (hf, .inr (0, [.ref (fd 0), .ref (fd 1), .ref (fd 2), .int f_length])), (fd 0, .inl (cyI, 270, .inl f_steps))]) (va_runV (As := [.int 40]) (rest := []) hfix (k_Re_isSign l dC dI cyB cyI cyJ cyZ cyO hR ed e_length e_at e_kind e_start e_number e_told e_faultKind e_faultPlace e_name (40 : Int32) hp _ (by first | omega | assumption) (by first | omega | assumption) (by first | omega | assumption) (by first | omega | assumption) (by first | omega | assumption) (by first | omega | assumption) (by first | omega | assumption) (by first | omega | assumption)) (cwV 1 hts (gi_V (ow_m (k := 3) rfl) (ow_m (k := 4) rfl) (ow_m (k := 5) rfl) (ow_m (k := 6) rfl) (sb_c sb_l) gd_k_Re_isSign) rfl rfl rfl (by decide +kernel) ⟨Nat.le_of_ble_eq_true rfl, Nat.le_of_ble_eq_true rfl⟩) (g_preV hKN hP hD [4] rfl (by decide) 0 2 rfl rfl) rfl rfl hl.1 rfl (lv_room (Nat.le_of_ble_eq_true rfl)) dX2_readUnit_87 ⟨Nat.le_of_ble_eq_true rfl, Nat.le_of_ble_eq_true rfl⟩) hP hD hS hA [4] [0, 1, 2, 3] rfl rfl (by decide) (by decide) (fun r55639 u55640 H locs qu55640 hP hD hS => ?_)
            obtain ⟨b55641, b55642⟩ := qu55640
            have hP : va_P (dC, dI) vwCl [(ed 0, .inl (cyB, 1600, .inl e_text)), (hp, .inr (1, [.ref (pd 0), .ref (pd 1), .ref (pd 2), .ref hf, .int p_mC, .int p_nC, .int p_kC, .int z55637, .int p_copy, .int p_loss, .int p_draw])), (hf, .inr (0, [.ref (fd 0), .ref (fd 1), .ref (fd 2), .int f_length])), (fd 0, .inl (cyI, 270, .inl f_steps)), (hR, .inr (2, [.ref (ed 0), .int e_length, .int e_at, .ref hp, .int e_kind, .int e_start, .int e_number, .long e_name, .int e_told, .int e_faultKind, .int e_faultPlace]))] H := hP
            have hD : va_D A [(ed 0, .inl (cyB, 1600, .inl e_text)), (hp, .inr (1, [.ref (pd 0), .ref (pd 1), .ref (pd 2), .ref hf, .int p_mC, .int p_nC, .int p_kC, .int z55637, .int p_copy, .int p_loss, .int p_draw])), (hf, .inr (0, [.ref (fd 0), .ref (fd 1), .ref (fd 2), .int f_length])), (fd 0, .inl (cyI, 270, .inl f_steps)), (hR, .inr (2, [.ref (ed 0), .int e_length, .int e_at, .ref hp, .int e_kind, .int e_start, .int e_number, .long e_name, .int e_told, .int e_faultKind, .int e_faultPlace]))] := hD
            refine lv_if_eq (tgt := 99) hx hb dX2_readUnit_90 (by decide) (fun c55643 => ?_) (fun c55643 => ?_)
            · have c55643 := i_eq (a := r55639.toInt) (b := 0) c55643 rfl (by decide)
              refine lv_aload_n hx hb dX2_readUnit_99 rfl (lv_at hl 1 rfl) ?_
              refine va_get (D := (dC, dI)) (ci := 2) (v := .ref hp) (C := RX2) (T := TX2) (N := 11) hx hb hts hi2 hown hK hP 4 rfl rfl 3 (by decide) (hts _ (ow_m (k := 1) rfl)) (fun _ h9 => h9) rfl dX2_readUnit_100 ?_
              refine va_get (D := (dC, dI)) (ci := 1) (v := .ref hf) (C := RX1) (T := TX1) (N := 11) hx hb hts hi1 hown hK hP 1 rfl rfl 3 (by decide) (hts _ (ow_m (k := 7) rfl)) (fun _ h9 => h9) rfl dX2_readUnit_103 ?_
              refine lv_iload_n hx hb dX2_readUnit_106 rfl (lv_at hl 0 rfl) ?_
              refine lv_if_eq (tgt := 123) hx hb dX2_readUnit_107 (by decide) (fun c55644 => ?_) (fun c55644 => ?_)
              · have c55644 := i_eq (a := v55504.toInt) (b := 0) c55644 rfl (by decide)
                refine lv_aload_n hx hb dX2_readUnit_123 rfl (lv_at hl 1 rfl) ?_
                refine va_get (D := (dC, dI)) (ci := 2) (v := .int e_number) (C := RX2) (T := TX2) (N := 11) hx hb hts hi2 hown hK hP 4 rfl rfl 6 (by decide) (hts _ (ow_m (k := 8) rfl)) (fun _ h9 => h9) rfl dX2_readUnit_124 ?_
                refine gf_v (wr := [(ed 0, .inl (cyB, 1600, .inl e_text)), (hp, .inr (1, [.ref (pd 0), .ref (pd 1), .ref (pd 2), .ref hf, .int p_mC, .int p_nC, .int p_kC, .int z55637, .int p_copy, .int p_loss, .int p_draw])), (hR, .inr (2, [.ref (ed 0), .int e_length, .int e_at, .ref hp, .int e_kind, .int e_start, .int e_number, .long e_name, .int e_told, .int e_faultKind, .int e_faultPlace]))]) (va_runV (As := [.int e_number]) (rest := []) hfix (k_Fo_add l dC dI cyB cyI cyJ cyZ cyO hf fd f_steps f_length e_number _ (by first | omega | assumption) (by first | omega | assumption)) (cwV 1 hts (gi_V (ow_m (k := 9) rfl) (ow_m (k := 10) rfl) (ow_m (k := 11) rfl) (ow_m (k := 12) rfl) (sb_c (sb_r sb_l)) gd_k_Fo_add) rfl rfl rfl (by decide +kernel) ⟨Nat.le_of_ble_eq_true rfl, Nat.le_of_ble_eq_true rfl⟩) (g_preV hKN hP hD [2, 3] rfl (by decide) 0 0 rfl rfl) rfl rfl hl.1 rfl (lv_room (Nat.le_of_ble_eq_true rfl)) dX2_readUnit_127 ⟨Nat.le_of_ble_eq_true rfl, Nat.le_of_ble_eq_true rfl⟩) hP hD hS hA [2, 3] [0, 1, 4] rfl rfl (by decide) (by decide) (fun u55646 H locs qu55646 hP hD hS => ?_)
                obtain ⟨b55647, b55648⟩ := qu55646
                have hP : va_P (dC, dI) vwCl [(ed 0, .inl (cyB, 1600, .inl e_text)), (hp, .inr (1, [.ref (pd 0), .ref (pd 1), .ref (pd 2), .ref hf, .int p_mC, .int p_nC, .int p_kC, .int z55637, .int p_copy, .int p_loss, .int p_draw])), (hR, .inr (2, [.ref (ed 0), .int e_length, .int e_at, .ref hp, .int e_kind, .int e_start, .int e_number, .long e_name, .int e_told, .int e_faultKind, .int e_faultPlace])), (hf, .inr (0, [.ref (fd 0), .ref (fd 1), .ref (fd 2), .int (u55646.2.1 0)])), (fd 0, .inl (cyI, 270, .inl (u55646.1 0)))] H := hP
                have hD : va_D A [(ed 0, .inl (cyB, 1600, .inl e_text)), (hp, .inr (1, [.ref (pd 0), .ref (pd 1), .ref (pd 2), .ref hf, .int p_mC, .int p_nC, .int p_kC, .int z55637, .int p_copy, .int p_loss, .int p_draw])), (hR, .inr (2, [.ref (ed 0), .int e_length, .int e_at, .ref hp, .int e_kind, .int e_start, .int e_number, .long e_name, .int e_told, .int e_faultKind, .int e_faultPlace])), (hf, .inr (0, [.ref (fd 0), .ref (fd 1), .ref (fd 2), .int (u55646.2.1 0)])), (fd 0, .inl (cyI, 270, .inl (u55646.1 0)))] := hD
                refine lv_aload_n hx hb dX2_readUnit_130 rfl (lv_at hl 1 rfl) ?_
                refine gf_v (wr := [(hp, .inr (1, [.ref (pd 0), .ref (pd 1), .ref (pd 2), .ref hf, .int p_mC, .int p_nC, .int p_kC, .int z55637, .int p_copy, .int p_loss, .int p_draw])), (hf, .inr (0, [.ref (fd 0), .ref (fd 1), .ref (fd 2), .int (u55646.2.1 0)])), (fd 0, .inl (cyI, 270, .inl (u55646.1 0)))]) (va_runV (As := []) (rest := []) hfix (k_Re_advance l dC dI cyB cyI cyJ cyZ cyO adK adV hR ed e_text e_length e_at e_kind e_start e_number e_told e_faultKind e_faultPlace e_name hp _ (by first | omega | assumption) (by first | omega | assumption) (by first | omega | assumption) (by first | omega | assumption) (by first | omega | assumption) (by first | omega | assumption) (by first | omega | assumption) (by first | omega | assumption)) (cwV 0 hts (gi_V (ow_m (k := 13) rfl) (ow_m (k := 14) rfl) (ow_m (k := 15) rfl) (ow_m (k := 6) rfl) (sb_c (sb_r (sb_r sb_l))) gd_k_Re_advance) rfl rfl rfl (by decide +kernel) ⟨Nat.le_of_ble_eq_true rfl, Nat.le_of_ble_eq_true rfl⟩) (g_preVZ hZ hS hA hKN hP hD [2, 0] rfl (by decide) 0 2 rfl rfl) rfl rfl hl.1 rfl (lv_room (Nat.le_of_ble_eq_true rfl)) dX2_readUnit_131 ⟨Nat.le_of_ble_eq_true rfl, Nat.le_of_ble_eq_true rfl⟩) hP hD hS hA [2, 0] [1, 3, 4] rfl rfl (by decide) (by decide) (fun u55650 H locs qu55650 hP hD hS => ?_)
                obtain ⟨b55651, b55652, b55653, b55654, b55655, b55656⟩ := qu55650
                have hP : va_P (dC, dI) vwCl [(hp, .inr (1, [.ref (pd 0), .ref (pd 1), .ref (pd 2), .ref hf, .int p_mC, .int p_nC, .int p_kC, .int z55637, .int p_copy, .int p_loss, .int p_draw])), (hf, .inr (0, [.ref (fd 0), .ref (fd 1), .ref (fd 2), .int (u55646.2.1 0)])), (fd 0, .inl (cyI, 270, .inl (u55646.1 0))), (hR, .inr (2, [.ref (ed 0), .int e_length, .int (u55650.2.1 0), .ref hp, .int (u55650.2.1 1), .int (u55650.2.1 2), .int (u55650.2.1 3), .long (u55650.2.2.1 0), .int e_told, .int e_faultKind, .int e_faultPlace])), (ed 0, .inl (cyB, 1600, .inl e_text))] H := hP
                have hD : va_D A [(hp, .inr (1, [.ref (pd 0), .ref (pd 1), .ref (pd 2), .ref hf, .int p_mC, .int p_nC, .int p_kC, .int z55637, .int p_copy, .int p_loss, .int p_draw])), (hf, .inr (0, [.ref (fd 0), .ref (fd 1), .ref (fd 2), .int (u55646.2.1 0)])), (fd 0, .inl (cyI, 270, .inl (u55646.1 0))), (hR, .inr (2, [.ref (ed 0), .int e_length, .int (u55650.2.1 0), .ref hp, .int (u55650.2.1 1), .int (u55650.2.1 2), .int (u55650.2.1 3), .long (u55650.2.2.1 0), .int e_told, .int e_faultKind, .int e_faultPlace])), (ed 0, .inl (cyB, 1600, .inl e_text))] := hD
                have w55657 : 0 ≤ (u55650.2.1 0).toInt := by first | omega | assumption | rfl | (intros; rfl)
                have w55658 : (u55650.2.1 0).toInt ≤ 1600 := by first | omega | assumption | rfl | (intros; rfl)
                have w55659 : 0 ≤ (u55650.2.1 1).toInt := by first | omega | assumption | rfl | (intros; rfl)
                have w55660 : (u55650.2.1 1).toInt ≤ 5 := by first | omega | assumption | rfl | (intros; rfl)
                have w55661 : 0 ≤ (u55650.2.1 2).toInt := by first | omega | assumption | rfl | (intros; rfl)
                have w55662 : (u55650.2.1 2).toInt ≤ 1600 := by first | omega | assumption | rfl | (intros; rfl)
                have w55663 : 0 ≤ (u55646.2.1 0).toInt := by first | omega | assumption | rfl | (intros; rfl)
                have w55664 : (u55646.2.1 0).toInt ≤ 270 := by first | omega | assumption | rfl | (intros; rfl)
                have w55665 : e_faultKind.toInt = 0 → e_faultKind.toInt = 0 := by first | omega | assumption | rfl | (intros; rfl)
                exact W.vret hx hb hr (fun t ht hW => ⟨⟨((fun _ => u55646.1 0), (fun k => match k with | 0 => u55650.2.1 0 | 1 => u55650.2.1 1 | 2 => u55650.2.1 2 | 3 => u55650.2.1 3 | 4 => e_faultKind | 5 => e_faultPlace | 6 => z55637 | _ => u55646.2.1 0), (fun _ => u55650.2.2.1 0), (fun _ => fun _ => 0)), rfl, ⟨w55657, w55658, w55659, w55660, w55661, w55662, w55663, w55664, w55665⟩, cE.of ht hP hD [3, 4, 0, 1, 2] (by decide) rfl⟩, hS.F ht⟩) hS.2.2 dX2_readUnit_134
              · have c55644 := i_ne (a := v55504.toInt) (b := 0) c55644 rfl (by decide)
                exfalso; omega
            · have c55643 := i_ne (a := r55639.toInt) (b := 0) c55643 rfl (by decide)
              refine lv_aload_n hx hb dX2_readUnit_93 rfl (lv_at hl 1 rfl) ?_
              refine lv_iload_n hx hb dX2_readUnit_94 rfl (lv_at hl 2 rfl) ?_
              refine gf_v (wr := [(ed 0, .inl (cyB, 1600, .inl e_text)), (fd 0, .inl (cyI, 270, .inl f_steps))]) (va_runV (As := [.int 7]) (rest := []) hfix (k_Re_readWithin_7 l dC dI cyB cyI cyJ cyZ cyO adK adV hR ed e_length e_at e_kind e_start e_number e_told e_faultKind e_faultPlace e_name hp pd p_mC p_nC p_kC z55637 p_copy p_loss p_draw hf fd f_length _ (by first | omega | assumption) (by first | omega | assumption) (by first | omega | assumption) (by first | omega | assumption) (by first | omega | assumption) (by first | omega | assumption) (by first | omega | assumption) (by first | omega | assumption) (by first | omega | assumption) (by first | omega | assumption) (by first | omega | assumption) (by first | omega | assumption) (by first | omega | assumption) (by first | omega | assumption) (by first | omega | assumption) (by first | omega | assumption)) (cwV 1 hts (gi_V (ow_m (k := 16) rfl) (ow_m (k := 17) rfl) (ow_m (k := 18) rfl) (ow_m (k := 6) rfl) (sb_c (sb_r (sb_r (sb_r sb_l)))) gd_k_Re_readWithin_7) rfl rfl rfl (by decide +kernel) ⟨Nat.le_of_ble_eq_true rfl, Nat.le_of_ble_eq_true rfl⟩) (g_preVZ hZ hS hA hKN hP hD [4, 1, 2] rfl (by decide) 0 2 rfl rfl) rfl rfl hl.1 rfl (lv_room (Nat.le_of_ble_eq_true rfl)) dX2_readUnit_95 ⟨Nat.le_of_ble_eq_true rfl, Nat.le_of_ble_eq_true rfl⟩) hP hD hS hA [4, 1, 2] [0, 3] rfl rfl (by decide) (by decide) (fun u55667 H locs qu55667 hP hD hS => ?_)
              have b55668 := qu55667
              have hP : va_P (dC, dI) vwCl [(ed 0, .inl (cyB, 1600, .inl e_text)), (fd 0, .inl (cyI, 270, .inl f_steps)), (hR, .inr (2, [.ref (ed 0), .int e_length, .int e_at, .ref hp, .int e_kind, .int e_start, .int e_number, .long e_name, .int e_told, .int (u55667.2.1 0), .int (u55667.2.1 1)])), (hp, .inr (1, [.ref (pd 0), .ref (pd 1), .ref (pd 2), .ref hf, .int p_mC, .int p_nC, .int p_kC, .int z55637, .int p_copy, .int p_loss, .int p_draw])), (hf, .inr (0, [.ref (fd 0), .ref (fd 1), .ref (fd 2), .int f_length]))] H := hP
              have hD : va_D A [(ed 0, .inl (cyB, 1600, .inl e_text)), (fd 0, .inl (cyI, 270, .inl f_steps)), (hR, .inr (2, [.ref (ed 0), .int e_length, .int e_at, .ref hp, .int e_kind, .int e_start, .int e_number, .long e_name, .int e_told, .int (u55667.2.1 0), .int (u55667.2.1 1)])), (hp, .inr (1, [.ref (pd 0), .ref (pd 1), .ref (pd 2), .ref hf, .int p_mC, .int p_nC, .int p_kC, .int z55637, .int p_copy, .int p_loss, .int p_draw])), (hf, .inr (0, [.ref (fd 0), .ref (fd 1), .ref (fd 2), .int f_length]))] := hD
              have w55669 : 0 ≤ e_at.toInt := by first | omega | assumption | rfl | (intros; rfl)
              have w55670 : e_at.toInt ≤ 1600 := by first | omega | assumption | rfl | (intros; rfl)
              have w55671 : 0 ≤ e_kind.toInt := by first | omega | assumption | rfl | (intros; rfl)
              have w55672 : e_kind.toInt ≤ 5 := by first | omega | assumption | rfl | (intros; rfl)
              have w55673 : 0 ≤ e_start.toInt := by first | omega | assumption | rfl | (intros; rfl)
              have w55674 : e_start.toInt ≤ 1600 := by first | omega | assumption | rfl | (intros; rfl)
              have w55675 : 0 ≤ f_length.toInt := by first | omega | assumption | rfl | (intros; rfl)
              have w55676 : f_length.toInt ≤ 270 := by first | omega | assumption | rfl | (intros; rfl)
              have w55677 : (u55667.2.1 0).toInt = 0 → e_faultKind.toInt = 0 := by first | omega | assumption | rfl | (intros; rfl)
              exact W.vret hx hb hr (fun t ht hW => ⟨⟨((fun _ => f_steps), (fun k => match k with | 0 => e_at | 1 => e_kind | 2 => e_start | 3 => e_number | 4 => u55667.2.1 0 | 5 => u55667.2.1 1 | 6 => z55637 | _ => f_length), (fun _ => e_name), (fun _ => fun _ => 0)), rfl, ⟨w55669, w55670, w55671, w55672, w55673, w55674, w55675, w55676, w55677⟩, cE.of ht hP hD [2, 0, 3, 4, 1] (by decide) rfl⟩, hS.F ht⟩) hS.2.2 dX2_readUnit_98
          · have c55636 := i_nlt (a := p_units.toInt) (b := 30) c55636 rfl (by decide)
            refine lv_aload_n hx hb dX2_readUnit_65 rfl (lv_at hl 1 rfl) ?_
            refine lv_iconst (v := 2) hx hb dX2_readUnit_66 (by decide) ?_
            refine gf_v (wr := [(ed 0, .inl (cyB, 1600, .inl e_text)), (hp, .inr (1, [.ref (pd 0), .ref (pd 1), .ref (pd 2), .ref hf, .int p_mC, .int p_nC, .int p_kC, .int p_units, .int p_copy, .int p_loss, .int p_draw])), (hf, .inr (0, [.ref (fd 0), .ref (fd 1), .ref (fd 2), .int f_length])), (fd 0, .inl (cyI, 270, .inl f_steps))]) (va_runV (As := [.int 2]) (rest := []) hfix (k_Re_refuse l dC dI cyB cyI cyJ cyZ cyO hR ed e_length e_at e_kind e_start e_number e_told e_faultKind e_faultPlace e_name (2 : Int32) hp _ (by first | omega | assumption) (by first | omega | assumption) (by first | omega | assumption) (by first | omega | assumption) (by first | omega | assumption) (by first | omega | assumption) (by first | omega | assumption) (by first | omega | assumption) (by first | omega | assumption) (by first | omega | assumption)) (cwV 1 hts (gi_V (ow_m (k := 19) rfl) (ow_m (k := 20) rfl) (ow_m (k := 21) rfl) (ow_m (k := 6) rfl) (sb_c (sb_r (sb_r (sb_r (sb_r sb_l))))) gd_k_Re_refuse) rfl rfl rfl (by decide +kernel) ⟨Nat.le_of_ble_eq_true rfl, Nat.le_of_ble_eq_true rfl⟩) (g_preV hKN hP hD [4] rfl (by decide) 0 2 rfl rfl) rfl rfl hl.1 rfl (lv_room (Nat.le_of_ble_eq_true rfl)) dX2_readUnit_67 ⟨Nat.le_of_ble_eq_true rfl, Nat.le_of_ble_eq_true rfl⟩) hP hD hS hA [4] [0, 1, 2, 3] rfl rfl (by decide) (by decide) (fun u55679 H locs qu55679 hP hD hS => ?_)
            have b55680 := qu55679
            have hP : va_P (dC, dI) vwCl [(ed 0, .inl (cyB, 1600, .inl e_text)), (hp, .inr (1, [.ref (pd 0), .ref (pd 1), .ref (pd 2), .ref hf, .int p_mC, .int p_nC, .int p_kC, .int p_units, .int p_copy, .int p_loss, .int p_draw])), (hf, .inr (0, [.ref (fd 0), .ref (fd 1), .ref (fd 2), .int f_length])), (fd 0, .inl (cyI, 270, .inl f_steps)), (hR, .inr (2, [.ref (ed 0), .int e_length, .int e_at, .ref hp, .int e_kind, .int e_start, .int e_number, .long e_name, .int e_told, .int (u55679.2.1 0), .int (u55679.2.1 1)]))] H := hP
            have hD : va_D A [(ed 0, .inl (cyB, 1600, .inl e_text)), (hp, .inr (1, [.ref (pd 0), .ref (pd 1), .ref (pd 2), .ref hf, .int p_mC, .int p_nC, .int p_kC, .int p_units, .int p_copy, .int p_loss, .int p_draw])), (hf, .inr (0, [.ref (fd 0), .ref (fd 1), .ref (fd 2), .int f_length])), (fd 0, .inl (cyI, 270, .inl f_steps)), (hR, .inr (2, [.ref (ed 0), .int e_length, .int e_at, .ref hp, .int e_kind, .int e_start, .int e_number, .long e_name, .int e_told, .int (u55679.2.1 0), .int (u55679.2.1 1)]))] := hD
            have w55681 : 0 ≤ e_at.toInt := by first | omega | assumption | rfl | (intros; rfl)
            have w55682 : e_at.toInt ≤ 1600 := by first | omega | assumption | rfl | (intros; rfl)
            have w55683 : 0 ≤ e_kind.toInt := by first | omega | assumption | rfl | (intros; rfl)
            have w55684 : e_kind.toInt ≤ 5 := by first | omega | assumption | rfl | (intros; rfl)
            have w55685 : 0 ≤ e_start.toInt := by first | omega | assumption | rfl | (intros; rfl)
            have w55686 : e_start.toInt ≤ 1600 := by first | omega | assumption | rfl | (intros; rfl)
            have w55687 : 0 ≤ f_length.toInt := by first | omega | assumption | rfl | (intros; rfl)
            have w55688 : f_length.toInt ≤ 270 := by first | omega | assumption | rfl | (intros; rfl)
            have w55689 : (u55679.2.1 0).toInt = 0 → e_faultKind.toInt = 0 := by first | omega | assumption | rfl | (intros; rfl)
            exact W.vret hx hb hr (fun t ht hW => ⟨⟨((fun _ => f_steps), (fun k => match k with | 0 => e_at | 1 => e_kind | 2 => e_start | 3 => e_number | 4 => u55679.2.1 0 | 5 => u55679.2.1 1 | 6 => p_units | _ => f_length), (fun _ => e_name), (fun _ => fun _ => 0)), rfl, ⟨w55681, w55682, w55683, w55684, w55685, w55686, w55687, w55688, w55689⟩, cE.of ht hP hD [4, 0, 1, 2, 3] (by decide) rfl⟩, hS.F ht⟩) hS.2.2 dX2_readUnit_70
  refine lv_icmp_ne (tgt := 30) hx hb dX2_readUnit_5 (by decide) (fun c55690 => ?_) (fun c55690 => ?_)
  · have c55690 := i_ne (a := e_kind.toInt) (b := 1) c55690 rfl (by decide)
    refine lv_iconst (v := 0) hx hb dX2_readUnit_30 (by decide) ?_
    have hl := lv_sub (l' := [(0, .ref hR), (1, .int 7)]) hl [0, 1] rfl
    exact hj55503 _ _ _ ⟨(0 : Int32), ls, rfl, hl, hP, hD, hS, by first | assumption | omega, by first | assumption | omega⟩
  · have c55690 := i_eq (a := e_kind.toInt) (b := 1) c55690 rfl (by decide)
    refine lv_aload_n hx hb dX2_readUnit_8 rfl (lv_at hl 0 rfl) ?_
    refine va_get (D := (dC, dI)) (ci := 2) (v := .int e_number) (C := RX2) (T := TX2) (N := 11) hx hb hts hi2 hown hK hP 0 rfl rfl 6 (by decide) (hts _ (ow_m (k := 8) rfl)) (fun _ h9 => h9) rfl dX2_readUnit_9 ?_
    refine lv_bipush (v := 7) hx hb dX2_readUnit_12 (by decide) ?_
    refine lv_icmp_lt (tgt := 30) hx hb dX2_readUnit_14 (by decide) (fun c55691 => ?_) (fun c55691 => ?_)
    · have c55691 := i_lt (a := e_number.toInt) (b := 7) c55691 rfl (by decide)
      refine lv_iconst (v := 0) hx hb dX2_readUnit_30 (by decide) ?_
      have hl := lv_sub (l' := [(0, .ref hR), (1, .int 7)]) hl [0, 1] rfl
      exact hj55503 _ _ _ ⟨(0 : Int32), ls, rfl, hl, hP, hD, hS, by first | assumption | omega, by first | assumption | omega⟩
    · have c55691 := i_nlt (a := e_number.toInt) (b := 7) c55691 rfl (by decide)
      refine lv_aload_n hx hb dX2_readUnit_17 rfl (lv_at hl 0 rfl) ?_
      refine va_get (D := (dC, dI)) (ci := 2) (v := .int e_number) (C := RX2) (T := TX2) (N := 11) hx hb hts hi2 hown hK hP 0 rfl rfl 6 (by decide) (hts _ (ow_m (k := 8) rfl)) (fun _ h9 => h9) rfl dX2_readUnit_18 ?_
      refine lv_bipush (v := 12) hx hb dX2_readUnit_21 (by decide) ?_
      refine lv_icmp_gt (tgt := 30) hx hb dX2_readUnit_23 (by decide) (fun c55692 => ?_) (fun c55692 => ?_)
      · have c55692 := i_lt (a := 12) (b := e_number.toInt) c55692 (by decide) rfl
        refine lv_iconst (v := 0) hx hb dX2_readUnit_30 (by decide) ?_
        have hl := lv_sub (l' := [(0, .ref hR), (1, .int 7)]) hl [0, 1] rfl
        exact hj55503 _ _ _ ⟨(0 : Int32), ls, rfl, hl, hP, hD, hS, by first | assumption | omega, by first | assumption | omega⟩
      · have c55692 := i_nlt (a := 12) (b := e_number.toInt) c55692 (by decide) rfl
        refine lv_iconst (v := 1) hx hb dX2_readUnit_26 (by decide) ?_
        refine lv_goto (tgt := 31) hx hb dX2_readUnit_27 (by decide) ?_
        have hl := lv_sub (l' := [(0, .ref hR), (1, .int 7)]) hl [0, 1] rfl
        exact hj55503 _ _ _ ⟨(1 : Int32), ls, rfl, hl, hP, hD, hS, by first | assumption | omega, by first | assumption | omega⟩
