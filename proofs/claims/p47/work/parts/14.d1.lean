theorem i_bd (x : Int32) : -2147483648 ≤ x.toInt ∧ x.toInt ≤ 2147483647 := ⟨x.le_toInt, by have := x.toInt_lt; omega⟩
theorem rh40 {row has : Nat → Int32} (hr : In2 row 0 6 0 7) (hh : In2 has 0 8 0 40) {x : Int32} (h0 : 0 ≤ x.toInt) (h1 : x.toInt < 6) : 0 ≤ (has (row x.toNatClampNeg).toNatClampNeg).toInt ∧ (has (row x.toNatClampNeg).toNatClampNeg).toInt ≤ 40 := by
  have := hr x.toNatClampNeg (Nat.zero_le _) (tn_lt h0 (by omega))
  exact hh _ (Nat.zero_le _) (tn_lt this.1 (by omega))
def wo_k_St_underWay2 : List Cond := [.fieldLink RX5 42 "ReplicaChain$State" "size" "I", .fieldLink RX5 9 "ReplicaChain$State" "row" "[I", .fieldLink RX5 18 "ReplicaChain$State" "clean" "[I", .fieldLink RX5 15 "ReplicaChain$State" "has" "[I"]
def wq_k_St_underWay2 : List Cond := .code yX5_underWay cX5_underWay 5 (some .int) :: (wo_k_St_underWay2 ++ (wsX50 ++ []))
theorem gd_k_St_underWay2 : Gd wq_k_St_underWay2 := gd_c (gd_a (gd_o (by decide +kernel)) (gd_a gd_u gd_0))
abbrev wc_k_St_underWay2 (cyB cyI cyJ cyZ cyO : ClassId) (hs : Nat) (sd : Nat → Nat) (s_row : Nat → Int32) (s_has : Nat → Int32) (s_clean : Nat → Int32) (s_size : Int32) (s_copier : Int32) (s_copyLeft : Int32) (s_tick : Int32) (s_seed : Int32) (s_dropped : Int32) (x1 : Int32) (x2 : Int32) : va_W := [(hs, .inr (5, [.ref (sd 0), .ref (sd 1), .ref (sd 2), .ref (sd 3), .ref (sd 4), .ref (sd 5), .ref (sd 6), .int s_size, .int s_copier, .int s_copyLeft, .int s_tick, .int s_seed, .int s_dropped])), (sd 0, .inl (cyI, 6, .inl s_row)), (sd 1, .inl (cyI, 8, .inl s_has)), (sd 2, .inl (cyI, 8, .inl s_clean))]
set_option maxHeartbeats 4000000 in
set_option maxRecDepth 100000 in
theorem k_St_underWay2 (l : Launch) (dC : Nat → ClassId) (dI : Nat → Nat → Nat) (cyB cyI cyJ cyZ cyO : ClassId) (hs : Nat) (sd : Nat → Nat) (s_row : Nat → Int32) (s_has : Nat → Int32) (s_clean : Nat → Int32) (s_size : Int32) (s_copier : Int32) (s_copyLeft : Int32) (s_tick : Int32) (s_seed : Int32) (s_dropped : Int32) (x1 : Int32) (x2 : Int32) (sz : Nat) (l_s_size : 0 ≤ s_size.toInt) (u_s_size : s_size.toInt ≤ 6) (l_s_copier : -1 ≤ s_copier.toInt) (u_s_copier : s_copier.toInt ≤ 7) (l_s_seed : 0 ≤ s_seed.toInt) (u_s_seed : s_seed.toInt ≤ 999) (i0_s_row : In2 s_row 0 6 (0) (7)) (i0_s_has : In2 s_has 0 8 (0) (40)) (i0_s_clean : In2 s_clean 0 8 (0) (40)) (l_x1 : 0 ≤ x1.toInt) (u_x1 : x1.toInt ≤ 5) : Met l yX5_underWay wq_k_St_underWay2 ({ frames := 0, cells := 0, slots := 0, locals := 0 }) (va_Pc [.ref hs, .int x1, .int x2] (cB (dC, dI) (kT cyB cyI cyJ cyZ cyO) (wc_k_St_underWay2 cyB cyI cyJ cyZ cyO hs sd s_row s_has s_clean s_size s_copier s_copyLeft s_tick s_seed s_dropped x1 x2) sz)) (va_Qi (fun (r : Int32) (u : Unit) => (-40 ≤ r.toInt) ∧ (r.toInt ≤ 40) ∧ (x1.toInt + 1 < s_size.toInt → x2.toInt = 0 → ∀ y : Int32, y.toInt = x1.toInt + 1 → r.toInt = (s_has (s_row x1.toNatClampNeg).toNatClampNeg).toInt - (s_has (s_row y.toNatClampNeg).toNatClampNeg).toInt) ∧ (x1.toInt + 1 < s_size.toInt → x2.toInt ≠ 0 → ∀ y : Int32, y.toInt = x1.toInt + 1 → r.toInt = (s_clean (s_row y.toNatClampNeg).toNatClampNeg).toInt - (s_clean (s_row x1.toNatClampNeg).toNatClampNeg).toInt)) (fun (u : Unit) t => cE (dC, dI) (va_A (wc_k_St_underWay2 cyB cyI cyJ cyZ cyO hs sd s_row s_has s_clean s_size s_copier s_copyLeft s_tick s_seed s_dropped x1 x2) sz) ([(hs, .inr (5, [.ref (sd 0), .ref (sd 1), .ref (sd 2), .ref (sd 3), .ref (sd 4), .ref (sd 5), .ref (sd 6), .int s_size, .int s_copier, .int s_copyLeft, .int s_tick, .int s_seed, .int s_dropped])), (sd 0, .inl (cyI, 6, .inl s_row)), (sd 1, .inl (cyI, 8, .inl s_has)), (sd 2, .inl (cyI, 8, .inl s_clean))]) t.heap) (va_A (wc_k_St_underWay2 cyB cyI cyJ cyZ cyO hs sd s_row s_has s_clean s_size s_copier s_copyLeft s_tick s_seed s_dropped x1 x2) sz)) 0 0 (va_A (wc_k_St_underWay2 cyB cyI cyJ cyZ cyO hs sd s_row s_has s_clean s_size s_copier s_copyLeft s_tick s_seed s_dropped x1 x2) sz) := by
  refine Met.ofW (cc := cX5_underWay) (maxL := 5) (ret := (some .int)) (by decide) rfl ?_
  intro p e s m args below meth c s₁ B hml hv
  obtain ⟨rfl, hsz, hP, hKN, hD0⟩ := hv
  have hx := B.exec
  have hb := B.bytes
  have hr := B.returns
  have hts := atoms_spec (ws := wq_k_St_underWay2) B.pre
  have hown : s.vm.findClass RX5 = some m.cls := findClass_of_methodNamed B.named
  have hlocks := B.notSynchronized
  have hK := hKN.1
  have hfix : CallFix p m c cX5_underWay 5 s [.ref hs, .int x1, .int x2].toArray wq_k_St_underWay2 RX5 := ⟨hx, hb, hml, hown, hts⟩
  have hi5 : ∀ w ∈ wsX50, w ∈ wq_k_St_underWay2 := (sb_c sb_l)
  subst hsz
  have hD := hD0.self (sz := s.heap.size)
  generalize hAe : va_A (wc_k_St_underWay2 cyB cyI cyJ cyZ cyO hs sd s_row s_has s_clean s_size s_copier s_copyLeft s_tick s_seed s_dropped x1 x2) s.heap.size = A at hD ⊢
  have hA : ∀ q : Nat, s.heap.size ≤ q → A q := fun q h => by rw [← hAe]; exact Or.inr h
  have hS : va_S A s.heap s.heap [] := va_S.rf
  have hl := lv_entry ([.ref hs, .int x1, .int x2]) (n := 5) (Nat.le_of_ble_eq_true rfl)
  rw [lg_entry_eq]
  generalize (lg_sl ([.ref hs, .int x1, .int x2]) ++ List.replicate (5 - (lg_sl ([.ref hs, .int x1, .int x2])).length) Slot.unset).toArray = ls at hl ⊢
  have hl : lv_has ls 5 [(0, .ref hs), (1, .int x1), (2, .int x2)] := hl
  have ck0 : (0 : Int32).toInt = 0 := by decide
  refine lv_iload_n hx hb dX5_underWay_0 rfl (lv_at hl 1 rfl) ?_
  refine lv_if_lt (tgt := 14) hx hb dX5_underWay_1 (by decide) (fun c14131 => ?_) (fun c14131 => ?_)
  · have c14131 := i_lt (a := x1.toInt) (b := 0) c14131 rfl (by decide)
    exfalso; omega
  · have c14131 := i_nlt (a := x1.toInt) (b := 0) c14131 rfl (by decide)
    refine lv_iload_n hx hb dX5_underWay_4 rfl (lv_at hl 1 rfl) ?_
    refine lv_iconst (v := 1) hx hb dX5_underWay_5 (by decide) ?_
    refine lv_iadd hx hb dX5_underWay_6 ?_
    refine lv_topi (fun z14132 ez14132 => ?_)
    have tz14132 := ti_add (a := x1.toInt) (b := 1) ez14132 rfl (by decide) (by omega) (by omega)
    refine lv_aload_n hx hb dX5_underWay_7 rfl (lv_at hl 0 rfl) ?_
    refine va_get (D := (dC, dI)) (ci := 5) (v := .int s_size) (C := RX5) (T := TX5) (N := 13) hx hb hts hi5 hown hK hP 0 rfl rfl 7 (by decide) (hts _ (ow_m (k := 0) rfl)) (fun _ h9 => h9) rfl dX5_underWay_8 ?_
    refine lv_icmp_lt (tgt := 16) hx hb dX5_underWay_11 (by decide) (fun c14133 => ?_) (fun c14133 => ?_)
    · have c14133 := i_lt (a := z14132.toInt) (b := s_size.toInt) c14133 rfl rfl
      refine lv_aload_n hx hb dX5_underWay_16 rfl (lv_at hl 0 rfl) ?_
      refine va_get (D := (dC, dI)) (ci := 5) (v := .ref (sd 0)) (C := RX5) (T := TX5) (N := 13) hx hb hts hi5 hown hK hP 0 rfl rfl 0 (by decide) (hts _ (ow_m (k := 1) rfl)) (fun _ h9 => h9) rfl dX5_underWay_17 ?_
      refine lv_iload_n hx hb dX5_underWay_20 rfl (lv_at hl 1 rfl) ?_
      refine va_iald hx hb hK hP 1 1 rfl rfl (vp_i rfl (by omega) (by omega)) dX5_underWay_21 ?_
      refine lv_topi (fun z14134 ez14134 => ?_)
      have tz14134 := i0_s_row.at (x := x1.toInt) ez14134 rfl (by omega) (by omega)
      refine lv_istore_n (lv' := [(3, .int z14134), (0, .ref hs), (1, .int x1), (2, .int x2)]) hx hb dX5_underWay_22 rfl hl (by decide) rfl (fun ls hl => ?_)
      refine lv_aload_n hx hb dX5_underWay_23 rfl (lv_at hl 1 rfl) ?_
      refine va_get (D := (dC, dI)) (ci := 5) (v := .ref (sd 0)) (C := RX5) (T := TX5) (N := 13) hx hb hts hi5 hown hK hP 0 rfl rfl 0 (by decide) (hts _ (ow_m (k := 1) rfl)) (fun _ h9 => h9) rfl dX5_underWay_24 ?_
      refine lv_iload_n hx hb dX5_underWay_27 rfl (lv_at hl 2 rfl) ?_
      refine lv_iconst (v := 1) hx hb dX5_underWay_28 (by decide) ?_
      refine lv_iadd hx hb dX5_underWay_29 ?_
      refine lv_topi (fun z14135 ez14135 => ?_)
      have tz14135 := ti_add (a := x1.toInt) (b := 1) ez14135 rfl (by decide) (by omega) (by omega)
      refine va_iald hx hb hK hP 1 1 rfl rfl (vp_i rfl (by omega) (by omega)) dX5_underWay_30 ?_
      refine lv_topi (fun z14136 ez14136 => ?_)
      have tz14136 := i0_s_row.at (x := z14135.toInt) ez14136 rfl (by omega) (by omega)
      refine lv_istore (lv' := [(4, .int z14136), (3, .int z14134), (0, .ref hs), (1, .int x1), (2, .int x2)]) hx hb dX5_underWay_31 hl (by decide) rfl (fun ls hl => ?_)
      refine lv_iload_n hx hb dX5_underWay_33 rfl (lv_at hl 4 rfl) ?_
      refine lv_if_ne (tgt := 54) hx hb dX5_underWay_34 (by decide) (fun c14137 => ?_) (fun c14137 => ?_)
      · have c14137 := i_ne (a := x2.toInt) (b := 0) c14137 rfl (by decide)
        refine lv_aload_n hx hb dX5_underWay_54 rfl (lv_at hl 2 rfl) ?_
        refine va_get (D := (dC, dI)) (ci := 5) (v := .ref (sd 2)) (C := RX5) (T := TX5) (N := 13) hx hb hts hi5 hown hK hP 0 rfl rfl 2 (by decide) (hts _ (ow_m (k := 2) rfl)) (fun _ h9 => h9) rfl dX5_underWay_55 ?_
        refine lv_iload hx hb dX5_underWay_58 (lv_at hl 0 rfl) ?_
        refine va_iald hx hb hK hP 3 1 rfl rfl (vp_i rfl (by omega) (by omega)) dX5_underWay_60 ?_
        refine lv_topi (fun z14138 ez14138 => ?_)
        have tz14138 := i0_s_clean.at (x := z14136.toInt) ez14138 rfl (by omega) (by omega)
        refine lv_aload_n hx hb dX5_underWay_61 rfl (lv_at hl 2 rfl) ?_
        refine va_get (D := (dC, dI)) (ci := 5) (v := .ref (sd 2)) (C := RX5) (T := TX5) (N := 13) hx hb hts hi5 hown hK hP 0 rfl rfl 2 (by decide) (hts _ (ow_m (k := 2) rfl)) (fun _ h9 => h9) rfl dX5_underWay_62 ?_
        refine lv_iload_n hx hb dX5_underWay_65 rfl (lv_at hl 1 rfl) ?_
        refine va_iald hx hb hK hP 3 1 rfl rfl (vp_i rfl (by omega) (by omega)) dX5_underWay_66 ?_
        refine lv_topi (fun z14139 ez14139 => ?_)
        have tz14139 := i0_s_clean.at (x := z14134.toInt) ez14139 rfl (by omega) (by omega)
        refine lv_isub hx hb dX5_underWay_67 ?_
        refine lv_topi (fun z14140 ez14140 => ?_)
        have tz14140 := ti_sub (a := z14138.toInt) (b := z14139.toInt) ez14140 rfl rfl (by omega) (by omega)
        have hU1 : x1.toInt + 1 < s_size.toInt → x2.toInt = 0 → ∀ y : Int32, y.toInt = x1.toInt + 1 → z14140.toInt = (s_has (s_row x1.toNatClampNeg).toNatClampNeg).toInt - (s_has (s_row y.toNatClampNeg).toNatClampNeg).toInt := fun _ h => absurd h (by omega)
        have hU2 : x1.toInt + 1 < s_size.toInt → x2.toInt ≠ 0 → ∀ y : Int32, y.toInt = x1.toInt + 1 → z14140.toInt = (s_clean (s_row y.toNatClampNeg).toNatClampNeg).toInt - (s_clean (s_row x1.toNatClampNeg).toNatClampNeg).toInt := fun _ _ y hy => by
          have hyy : y = z14135 := Int32.toInt_inj.mp (by omega)
          rw [hyy, ← ez14136, ← ez14134, ← ez14138, ← ez14139]
          omega
        have w14141 : -40 ≤ z14140.toInt := by first | omega | assumption | rfl
        have w14142 : z14140.toInt ≤ 40 := by first | omega | assumption | rfl
        have w14143 : x1.toInt + 1 < s_size.toInt → x2.toInt = 0 → ∀ y : Int32, y.toInt = x1.toInt + 1 → z14140.toInt = (s_has (s_row x1.toNatClampNeg).toNatClampNeg).toInt - (s_has (s_row y.toNatClampNeg).toNatClampNeg).toInt := by first | omega | assumption | rfl
        have w14144 : x1.toInt + 1 < s_size.toInt → x2.toInt ≠ 0 → ∀ y : Int32, y.toInt = x1.toInt + 1 → z14140.toInt = (s_clean (s_row y.toNatClampNeg).toNatClampNeg).toInt - (s_clean (s_row x1.toNatClampNeg).toNatClampNeg).toInt := by first | omega | assumption | rfl
        exact W.iret (v := z14140) hx hb hr (fun t ht hW => ⟨⟨z14140, (), rfl, ⟨w14141, w14142, w14143, w14144⟩, cE.of ht hP hD [0, 1, 2, 3] (by decide) rfl⟩, hS.F ht⟩) hS.2.2 dX5_underWay_68
      · have c14137 := i_eq (a := x2.toInt) (b := 0) c14137 rfl (by decide)
        refine lv_aload_n hx hb dX5_underWay_37 rfl (lv_at hl 2 rfl) ?_
        refine va_get (D := (dC, dI)) (ci := 5) (v := .ref (sd 1)) (C := RX5) (T := TX5) (N := 13) hx hb hts hi5 hown hK hP 0 rfl rfl 1 (by decide) (hts _ (ow_m (k := 3) rfl)) (fun _ h9 => h9) rfl dX5_underWay_38 ?_
        refine lv_iload_n hx hb dX5_underWay_41 rfl (lv_at hl 1 rfl) ?_
        refine va_iald hx hb hK hP 2 1 rfl rfl (vp_i rfl (by omega) (by omega)) dX5_underWay_42 ?_
        refine lv_topi (fun z14145 ez14145 => ?_)
        have tz14145 := i0_s_has.at (x := z14134.toInt) ez14145 rfl (by omega) (by omega)
        refine lv_aload_n hx hb dX5_underWay_43 rfl (lv_at hl 2 rfl) ?_
        refine va_get (D := (dC, dI)) (ci := 5) (v := .ref (sd 1)) (C := RX5) (T := TX5) (N := 13) hx hb hts hi5 hown hK hP 0 rfl rfl 1 (by decide) (hts _ (ow_m (k := 3) rfl)) (fun _ h9 => h9) rfl dX5_underWay_44 ?_
        refine lv_iload hx hb dX5_underWay_47 (lv_at hl 0 rfl) ?_
        refine va_iald hx hb hK hP 2 1 rfl rfl (vp_i rfl (by omega) (by omega)) dX5_underWay_49 ?_
        refine lv_topi (fun z14146 ez14146 => ?_)
        have tz14146 := i0_s_has.at (x := z14136.toInt) ez14146 rfl (by omega) (by omega)
        refine lv_isub hx hb dX5_underWay_50 ?_
        refine lv_topi (fun z14147 ez14147 => ?_)
        have tz14147 := ti_sub (a := z14145.toInt) (b := z14146.toInt) ez14147 rfl rfl (by omega) (by omega)
        refine lv_goto (tgt := 68) hx hb dX5_underWay_51 (by decide) ?_
        have hU1 : x1.toInt + 1 < s_size.toInt → x2.toInt = 0 → ∀ y : Int32, y.toInt = x1.toInt + 1 → z14147.toInt = (s_has (s_row x1.toNatClampNeg).toNatClampNeg).toInt - (s_has (s_row y.toNatClampNeg).toNatClampNeg).toInt := fun _ _ y hy => by
          have hyy : y = z14135 := Int32.toInt_inj.mp (by omega)
          rw [hyy, ← ez14136, ← ez14134, ← ez14145, ← ez14146]
          omega
        have hU2 : x1.toInt + 1 < s_size.toInt → x2.toInt ≠ 0 → ∀ y : Int32, y.toInt = x1.toInt + 1 → z14147.toInt = (s_clean (s_row y.toNatClampNeg).toNatClampNeg).toInt - (s_clean (s_row x1.toNatClampNeg).toNatClampNeg).toInt := fun _ h => absurd h (by omega)
        have w14148 : -40 ≤ z14147.toInt := by first | omega | assumption | rfl
        have w14149 : z14147.toInt ≤ 40 := by first | omega | assumption | rfl
        have w14150 : x1.toInt + 1 < s_size.toInt → x2.toInt = 0 → ∀ y : Int32, y.toInt = x1.toInt + 1 → z14147.toInt = (s_has (s_row x1.toNatClampNeg).toNatClampNeg).toInt - (s_has (s_row y.toNatClampNeg).toNatClampNeg).toInt := by first | omega | assumption | rfl
        have w14151 : x1.toInt + 1 < s_size.toInt → x2.toInt ≠ 0 → ∀ y : Int32, y.toInt = x1.toInt + 1 → z14147.toInt = (s_clean (s_row y.toNatClampNeg).toNatClampNeg).toInt - (s_clean (s_row x1.toNatClampNeg).toNatClampNeg).toInt := by first | omega | assumption | rfl
        exact W.iret (v := z14147) hx hb hr (fun t ht hW => ⟨⟨z14147, (), rfl, ⟨w14148, w14149, w14150, w14151⟩, cE.of ht hP hD [0, 1, 2, 3] (by decide) rfl⟩, hS.F ht⟩) hS.2.2 dX5_underWay_68
    · have c14133 := i_nlt (a := z14132.toInt) (b := s_size.toInt) c14133 rfl rfl
      refine lv_iconst (v := 0) hx hb dX5_underWay_14 (by decide) ?_
      have hU1 : x1.toInt + 1 < s_size.toInt → x2.toInt = 0 → ∀ y : Int32, y.toInt = x1.toInt + 1 → (0 : Int32).toInt = (s_has (s_row x1.toNatClampNeg).toNatClampNeg).toInt - (s_has (s_row y.toNatClampNeg).toNatClampNeg).toInt := fun h => absurd h (by omega)
      have hU2 : x1.toInt + 1 < s_size.toInt → x2.toInt ≠ 0 → ∀ y : Int32, y.toInt = x1.toInt + 1 → (0 : Int32).toInt = (s_clean (s_row y.toNatClampNeg).toNatClampNeg).toInt - (s_clean (s_row x1.toNatClampNeg).toNatClampNeg).toInt := fun h => absurd h (by omega)
      have w14152 : -40 ≤ (0 : Int32).toInt := by first | omega | assumption | rfl
      have w14153 : (0 : Int32).toInt ≤ 40 := by first | omega | assumption | rfl
      have w14154 : x1.toInt + 1 < s_size.toInt → x2.toInt = 0 → ∀ y : Int32, y.toInt = x1.toInt + 1 → (0 : Int32).toInt = (s_has (s_row x1.toNatClampNeg).toNatClampNeg).toInt - (s_has (s_row y.toNatClampNeg).toNatClampNeg).toInt := by first | omega | assumption | rfl
      have w14155 : x1.toInt + 1 < s_size.toInt → x2.toInt ≠ 0 → ∀ y : Int32, y.toInt = x1.toInt + 1 → (0 : Int32).toInt = (s_clean (s_row y.toNatClampNeg).toNatClampNeg).toInt - (s_clean (s_row x1.toNatClampNeg).toNatClampNeg).toInt := by first | omega | assumption | rfl
      exact W.iret (v := 0) hx hb hr (fun t ht hW => ⟨⟨0, (), rfl, ⟨w14152, w14153, w14154, w14155⟩, cE.of ht hP hD [0, 1, 2, 3] (by decide) rfl⟩, hS.F ht⟩) hS.2.2 dX5_underWay_15
def wo_k_St_ticksTillNext : List Cond := [.fieldLink RX5 9 "ReplicaChain$State" "row" "[I", .fieldLink RX5 24 "ReplicaChain$State" "upDue" "[I", .fieldLink RX5 18 "ReplicaChain$State" "clean" "[I", .methodLink RX5 73 yX5_dueAt, .static yX5_dueAt, .initialized RX5, .fieldLink RX5 51 "ReplicaChain$State" "tick" "I", .fieldLink RX5 21 "ReplicaChain$State" "downDue" "[I", .fieldLink RX5 15 "ReplicaChain$State" "has" "[I"]
def wq_k_St_ticksTillNext : List Cond := .code yX5_ticksTillNext cX5_ticksTillNext 6 (some .int) :: (wo_k_St_ticksTillNext ++ (wq_k_St_dueAt ++ (wsX50 ++ [])))
theorem gd_k_St_ticksTillNext : Gd wq_k_St_ticksTillNext := gd_c (gd_a (gd_o (by decide +kernel)) (gd_a gd_k_St_dueAt (gd_a gd_u gd_0)))
abbrev wc_k_St_ticksTillNext (cyB cyI cyJ cyZ cyO : ClassId) (hs : Nat) (sd : Nat → Nat) (s_row : Nat → Int32) (s_has : Nat → Int32) (s_clean : Nat → Int32) (s_dn : Nat → Int32) (s_up : Nat → Int32) (s_size : Int32) (s_copier : Int32) (s_copyLeft : Int32) (s_tick : Int32) (s_seed : Int32) (s_dropped : Int32) (x1 : Int32) (x2 : Int32) : va_W := [(hs, .inr (5, [.ref (sd 0), .ref (sd 1), .ref (sd 2), .ref (sd 3), .ref (sd 4), .ref (sd 5), .ref (sd 6), .int s_size, .int s_copier, .int s_copyLeft, .int s_tick, .int s_seed, .int s_dropped])), (sd 0, .inl (cyI, 6, .inl s_row)), (sd 1, .inl (cyI, 8, .inl s_has)), (sd 2, .inl (cyI, 8, .inl s_clean)), (sd 3, .inl (cyI, 328, .inl s_dn)), (sd 4, .inl (cyI, 328, .inl s_up))]
set_option maxHeartbeats 4000000 in
set_option maxRecDepth 100000 in
theorem k_St_ticksTillNext (l : Launch) (dC : Nat → ClassId) (dI : Nat → Nat → Nat) (cyB cyI cyJ cyZ cyO : ClassId) (hs : Nat) (sd : Nat → Nat) (s_row : Nat → Int32) (s_has : Nat → Int32) (s_clean : Nat → Int32) (s_dn : Nat → Int32) (s_up : Nat → Int32) (s_size : Int32) (s_copier : Int32) (s_copyLeft : Int32) (s_tick : Int32) (s_seed : Int32) (s_dropped : Int32) (x1 : Int32) (x2 : Int32) (sz : Nat) (l_s_size : 0 ≤ s_size.toInt) (u_s_size : s_size.toInt ≤ 6) (l_s_copier : -1 ≤ s_copier.toInt) (u_s_copier : s_copier.toInt ≤ 7) (l_s_seed : 0 ≤ s_seed.toInt) (u_s_seed : s_seed.toInt ≤ 999) (i0_s_row : In2 s_row 0 6 (0) (7)) (i0_s_has : In2 s_has 0 8 (0) (40)) (i0_s_clean : In2 s_clean 0 8 (0) (40)) (l_x1 : 0 ≤ x1.toInt) (u_x1 : x1.toInt ≤ 4) (hp2 : x1.toInt + 1 < s_size.toInt) (h1 : x2.toInt = 0 → ∀ y : Int32, y.toInt = x1.toInt + 1 → (s_has (s_row y.toNatClampNeg).toNatClampNeg).toInt ≤ 39) (h2 : x2.toInt ≠ 0 → (s_clean (s_row x1.toNatClampNeg).toNatClampNeg).toInt ≤ 39) : Met l yX5_ticksTillNext wq_k_St_ticksTillNext ({ frames := 1, cells := 0, slots := 0, locals := 21 }) (va_Pc [.ref hs, .int x1, .int x2] (cB (dC, dI) (kT cyB cyI cyJ cyZ cyO) (wc_k_St_ticksTillNext cyB cyI cyJ cyZ cyO hs sd s_row s_has s_clean s_dn s_up s_size s_copier s_copyLeft s_tick s_seed s_dropped x1 x2) sz)) (va_Qi (fun (r : Int32) (u : Unit) => True) (fun (u : Unit) t => cE (dC, dI) (va_A (wc_k_St_ticksTillNext cyB cyI cyJ cyZ cyO hs sd s_row s_has s_clean s_dn s_up s_size s_copier s_copyLeft s_tick s_seed s_dropped x1 x2) sz) ([(hs, .inr (5, [.ref (sd 0), .ref (sd 1), .ref (sd 2), .ref (sd 3), .ref (sd 4), .ref (sd 5), .ref (sd 6), .int s_size, .int s_copier, .int s_copyLeft, .int s_tick, .int s_seed, .int s_dropped])), (sd 0, .inl (cyI, 6, .inl s_row)), (sd 1, .inl (cyI, 8, .inl s_has)), (sd 2, .inl (cyI, 8, .inl s_clean)), (sd 3, .inl (cyI, 328, .inl s_dn)), (sd 4, .inl (cyI, 328, .inl s_up))]) t.heap) (va_A (wc_k_St_ticksTillNext cyB cyI cyJ cyZ cyO hs sd s_row s_has s_clean s_dn s_up s_size s_copier s_copyLeft s_tick s_seed s_dropped x1 x2) sz)) 0 0 (va_A (wc_k_St_ticksTillNext cyB cyI cyJ cyZ cyO hs sd s_row s_has s_clean s_dn s_up s_size s_copier s_copyLeft s_tick s_seed s_dropped x1 x2) sz) := by
  refine Met.ofW (cc := cX5_ticksTillNext) (maxL := 6) (ret := (some .int)) (by decide) rfl ?_
  intro p e s m args below meth c s₁ B hml hv
  obtain ⟨rfl, hsz, hP, hKN, hD0⟩ := hv
  have hx := B.exec
  have hb := B.bytes
  have hr := B.returns
  have hts := atoms_spec (ws := wq_k_St_ticksTillNext) B.pre
  have hown : s.vm.findClass RX5 = some m.cls := findClass_of_methodNamed B.named
  have hlocks := B.notSynchronized
  have hK := hKN.1
  have hfix : CallFix p m c cX5_ticksTillNext 6 s [.ref hs, .int x1, .int x2].toArray wq_k_St_ticksTillNext RX5 := ⟨hx, hb, hml, hown, hts⟩
  have hi5 : ∀ w ∈ wsX50, w ∈ wq_k_St_ticksTillNext := (sb_c (sb_r sb_l))
  subst hsz
  have hD := hD0.self (sz := s.heap.size)
  generalize hAe : va_A (wc_k_St_ticksTillNext cyB cyI cyJ cyZ cyO hs sd s_row s_has s_clean s_dn s_up s_size s_copier s_copyLeft s_tick s_seed s_dropped x1 x2) s.heap.size = A at hD ⊢
  have hA : ∀ q : Nat, s.heap.size ≤ q → A q := fun q h => by rw [← hAe]; exact Or.inr h
  have hS : va_S A s.heap s.heap [] := va_S.rf
  have hl := lv_entry ([.ref hs, .int x1, .int x2]) (n := 6) (Nat.le_of_ble_eq_true rfl)
  rw [lg_entry_eq]
  generalize (lg_sl ([.ref hs, .int x1, .int x2]) ++ List.replicate (6 - (lg_sl ([.ref hs, .int x1, .int x2])).length) Slot.unset).toArray = ls at hl ⊢
  have hl : lv_has ls 6 [(0, .ref hs), (1, .int x1), (2, .int x2)] := hl
  refine lv_aload_n hx hb dX5_ticksTillNext_0 rfl (lv_at hl 0 rfl) ?_
  refine va_get (D := (dC, dI)) (ci := 5) (v := .ref (sd 0)) (C := RX5) (T := TX5) (N := 13) hx hb hts hi5 hown hK hP 0 rfl rfl 0 (by decide) (hts _ (ow_m (k := 0) rfl)) (fun _ h9 => h9) rfl dX5_ticksTillNext_1 ?_
  refine lv_iload_n hx hb dX5_ticksTillNext_4 rfl (lv_at hl 1 rfl) ?_
  refine va_iald hx hb hK hP 1 1 rfl rfl (vp_i rfl (by omega) (by omega)) dX5_ticksTillNext_5 ?_
  refine lv_topi (fun z14196 ez14196 => ?_)
  have tz14196 := i0_s_row.at (x := x1.toInt) ez14196 rfl (by omega) (by omega)
  refine lv_istore_n (lv' := [(3, .int z14196), (0, .ref hs), (1, .int x1), (2, .int x2)]) hx hb dX5_ticksTillNext_6 rfl hl (by decide) rfl (fun ls hl => ?_)
  refine lv_aload_n hx hb dX5_ticksTillNext_7 rfl (lv_at hl 1 rfl) ?_
  refine va_get (D := (dC, dI)) (ci := 5) (v := .ref (sd 0)) (C := RX5) (T := TX5) (N := 13) hx hb hts hi5 hown hK hP 0 rfl rfl 0 (by decide) (hts _ (ow_m (k := 0) rfl)) (fun _ h9 => h9) rfl dX5_ticksTillNext_8 ?_
  refine lv_iload_n hx hb dX5_ticksTillNext_11 rfl (lv_at hl 2 rfl) ?_
  refine lv_iconst (v := 1) hx hb dX5_ticksTillNext_12 (by decide) ?_
  refine lv_iadd hx hb dX5_ticksTillNext_13 ?_
  refine lv_topi (fun z14197 ez14197 => ?_)
  have tz14197 := ti_add (a := x1.toInt) (b := 1) ez14197 rfl (by decide) (by omega) (by omega)
  refine va_iald hx hb hK hP 1 1 rfl rfl (vp_i rfl (by omega) (by omega)) dX5_ticksTillNext_14 ?_
  refine lv_topi (fun z14198 ez14198 => ?_)
  have tz14198 := i0_s_row.at (x := z14197.toInt) ez14198 rfl (by omega) (by omega)
  refine lv_istore (lv' := [(4, .int z14198), (3, .int z14196), (0, .ref hs), (1, .int x1), (2, .int x2)]) hx hb dX5_ticksTillNext_15 hl (by decide) rfl (fun ls hl => ?_)
  refine lv_iload_n hx hb dX5_ticksTillNext_17 rfl (lv_at hl 4 rfl) ?_
  refine lv_if_ne (tgt := 42) hx hb dX5_ticksTillNext_18 (by decide) (fun c14199 => ?_) (fun c14199 => ?_)
  · have c14199 := i_ne (a := x2.toInt) (b := 0) c14199 rfl (by decide)
    refine lv_aload_n hx hb dX5_ticksTillNext_42 rfl (lv_at hl 2 rfl) ?_
    refine va_get (D := (dC, dI)) (ci := 5) (v := .ref (sd 4)) (C := RX5) (T := TX5) (N := 13) hx hb hts hi5 hown hK hP 0 rfl rfl 4 (by decide) (hts _ (ow_m (k := 1) rfl)) (fun _ h9 => h9) rfl dX5_ticksTillNext_43 ?_
    refine lv_iload_n hx hb dX5_ticksTillNext_46 rfl (lv_at hl 1 rfl) ?_
    refine lv_aload_n hx hb dX5_ticksTillNext_47 rfl (lv_at hl 2 rfl) ?_
    refine va_get (D := (dC, dI)) (ci := 5) (v := .ref (sd 2)) (C := RX5) (T := TX5) (N := 13) hx hb hts hi5 hown hK hP 0 rfl rfl 2 (by decide) (hts _ (ow_m (k := 2) rfl)) (fun _ h9 => h9) rfl dX5_ticksTillNext_48 ?_
    refine lv_iload_n hx hb dX5_ticksTillNext_51 rfl (lv_at hl 1 rfl) ?_
    refine va_iald hx hb hK hP 3 1 rfl rfl (vp_i rfl (by omega) (by omega)) dX5_ticksTillNext_52 ?_
    refine lv_topi (fun z14200 ez14200 => ?_)
    have tz14200 := i0_s_clean.at (x := z14196.toInt) ez14200 rfl (by omega) (by omega)
    have h39 : z14200.toInt ≤ 39 := by
      have h9 := h2 (by omega)
      rw [← ez14196, ← ez14200] at h9
      exact h9
    refine lv_iconst (v := 1) hx hb dX5_ticksTillNext_53 (by decide) ?_
    refine lv_iadd hx hb dX5_ticksTillNext_54 ?_
    refine lv_topi (fun z14201 ez14201 => ?_)
    have tz14201 := ti_add (a := z14200.toInt) (b := 1) ez14201 rfl (by decide) (by omega) (by omega)
    refine gf_i (wr := [(hs, .inr (5, [.ref (sd 0), .ref (sd 1), .ref (sd 2), .ref (sd 3), .ref (sd 4), .ref (sd 5), .ref (sd 6), .int s_size, .int s_copier, .int s_copyLeft, .int s_tick, .int s_seed, .int s_dropped])), (sd 0, .inl (cyI, 6, .inl s_row)), (sd 1, .inl (cyI, 8, .inl s_has)), (sd 2, .inl (cyI, 8, .inl s_clean)), (sd 3, .inl (cyI, 328, .inl s_dn)), (sd 4, .inl (cyI, 328, .inl s_up))]) (va_runS (As := [.int z14196, .int z14201]) (rest := [.ref (sd 4)]) hfix (k_St_dueAt l dC dI cyB cyI cyJ cyZ cyO z14196 z14201 _ (by first | omega | assumption) (by first | omega | assumption) (by first | omega | assumption) (by first | omega | assumption)) (va_cwS 2 hts (gi_S (ow_m (k := 3) rfl) (ow_m (k := 4) rfl) (ow_m (k := 5) rfl) (sb_c sb_l) gd_k_St_dueAt) rfl rfl rfl (by decide +kernel) ⟨Nat.le_of_ble_eq_true rfl, Nat.le_of_ble_eq_true rfl⟩) (g_preS hKN hP hD [] rfl (by decide)) rfl rfl hl.1 rfl (lv_room (Nat.le_of_ble_eq_true rfl)) dX5_ticksTillNext_55 ⟨Nat.le_of_ble_eq_true rfl, Nat.le_of_ble_eq_true rfl⟩) hP hD hS hA [] [0, 1, 2, 3, 4, 5] rfl rfl (by decide) (by decide) (fun r14202 u14203 H locs qu14203 hP hD hS => ?_)
    obtain ⟨b14204, b14205⟩ := qu14203
    have hP : va_P (dC, dI) vwCl [(hs, .inr (5, [.ref (sd 0), .ref (sd 1), .ref (sd 2), .ref (sd 3), .ref (sd 4), .ref (sd 5), .ref (sd 6), .int s_size, .int s_copier, .int s_copyLeft, .int s_tick, .int s_seed, .int s_dropped])), (sd 0, .inl (cyI, 6, .inl s_row)), (sd 1, .inl (cyI, 8, .inl s_has)), (sd 2, .inl (cyI, 8, .inl s_clean)), (sd 3, .inl (cyI, 328, .inl s_dn)), (sd 4, .inl (cyI, 328, .inl s_up))] H := hP
    have hD : va_D A [(hs, .inr (5, [.ref (sd 0), .ref (sd 1), .ref (sd 2), .ref (sd 3), .ref (sd 4), .ref (sd 5), .ref (sd 6), .int s_size, .int s_copier, .int s_copyLeft, .int s_tick, .int s_seed, .int s_dropped])), (sd 0, .inl (cyI, 6, .inl s_row)), (sd 1, .inl (cyI, 8, .inl s_has)), (sd 2, .inl (cyI, 8, .inl s_clean)), (sd 3, .inl (cyI, 328, .inl s_dn)), (sd 4, .inl (cyI, 328, .inl s_up))] := hD
    refine va_iald hx hb hK hP 5 1 rfl rfl (vp_i rfl (by omega) (by omega)) dX5_ticksTillNext_58 ?_
    refine lv_topi (fun z14206 ez14206 => ?_)
    refine lv_istore (lv' := [(5, .int z14206), (4, .int z14198), (3, .int z14196), (0, .ref hs), (1, .int x1), (2, .int x2)]) hx hb dX5_ticksTillNext_59 hl (by decide) rfl (fun ls hl => ?_)
    refine lv_iload hx hb dX5_ticksTillNext_61 (lv_at hl 0 rfl) ?_
    refine lv_aload_n hx hb dX5_ticksTillNext_63 rfl (lv_at hl 3 rfl) ?_
    refine va_get (D := (dC, dI)) (ci := 5) (v := .int s_tick) (C := RX5) (T := TX5) (N := 13) hx hb hts hi5 hown hK hP 0 rfl rfl 10 (by decide) (hts _ (ow_m (k := 6) rfl)) (fun _ h9 => h9) rfl dX5_ticksTillNext_64 ?_
    refine lv_isub hx hb dX5_ticksTillNext_67 ?_
    refine lv_topi (fun z14207 ez14207 => ?_)
    exact W.iret (v := z14207) hx hb hr (fun t ht hW => ⟨⟨z14207, (), rfl, trivial, cE.of ht hP hD [0, 1, 2, 3, 4, 5] (by decide) rfl⟩, hS.F ht⟩) hS.2.2 dX5_ticksTillNext_68
  · have c14199 := i_eq (a := x2.toInt) (b := 0) c14199 rfl (by decide)
    refine lv_aload_n hx hb dX5_ticksTillNext_21 rfl (lv_at hl 2 rfl) ?_
    refine va_get (D := (dC, dI)) (ci := 5) (v := .ref (sd 3)) (C := RX5) (T := TX5) (N := 13) hx hb hts hi5 hown hK hP 0 rfl rfl 3 (by decide) (hts _ (ow_m (k := 7) rfl)) (fun _ h9 => h9) rfl dX5_ticksTillNext_22 ?_
    refine lv_iload_n hx hb dX5_ticksTillNext_25 rfl (lv_at hl 1 rfl) ?_
    refine lv_aload_n hx hb dX5_ticksTillNext_26 rfl (lv_at hl 2 rfl) ?_
    refine va_get (D := (dC, dI)) (ci := 5) (v := .ref (sd 1)) (C := RX5) (T := TX5) (N := 13) hx hb hts hi5 hown hK hP 0 rfl rfl 1 (by decide) (hts _ (ow_m (k := 8) rfl)) (fun _ h9 => h9) rfl dX5_ticksTillNext_27 ?_
    refine lv_iload hx hb dX5_ticksTillNext_30 (lv_at hl 0 rfl) ?_
    refine va_iald hx hb hK hP 2 1 rfl rfl (vp_i rfl (by omega) (by omega)) dX5_ticksTillNext_32 ?_
    refine lv_topi (fun z14208 ez14208 => ?_)
    have tz14208 := i0_s_has.at (x := z14198.toInt) ez14208 rfl (by omega) (by omega)
    have h39 : z14208.toInt ≤ 39 := by
      have h9 := h1 (by omega) z14197 (by omega)
      rw [← ez14198, ← ez14208] at h9
      exact h9
    refine lv_iconst (v := 1) hx hb dX5_ticksTillNext_33 (by decide) ?_
    refine lv_iadd hx hb dX5_ticksTillNext_34 ?_
    refine lv_topi (fun z14209 ez14209 => ?_)
    have tz14209 := ti_add (a := z14208.toInt) (b := 1) ez14209 rfl (by decide) (by omega) (by omega)
    refine gf_i (wr := [(hs, .inr (5, [.ref (sd 0), .ref (sd 1), .ref (sd 2), .ref (sd 3), .ref (sd 4), .ref (sd 5), .ref (sd 6), .int s_size, .int s_copier, .int s_copyLeft, .int s_tick, .int s_seed, .int s_dropped])), (sd 0, .inl (cyI, 6, .inl s_row)), (sd 1, .inl (cyI, 8, .inl s_has)), (sd 2, .inl (cyI, 8, .inl s_clean)), (sd 3, .inl (cyI, 328, .inl s_dn)), (sd 4, .inl (cyI, 328, .inl s_up))]) (va_runS (As := [.int z14196, .int z14209]) (rest := [.ref (sd 3)]) hfix (k_St_dueAt l dC dI cyB cyI cyJ cyZ cyO z14196 z14209 _ (by first | omega | assumption) (by first | omega | assumption) (by first | omega | assumption) (by first | omega | assumption)) (va_cwS 2 hts (gi_S (ow_m (k := 3) rfl) (ow_m (k := 4) rfl) (ow_m (k := 5) rfl) (sb_c sb_l) gd_k_St_dueAt) rfl rfl rfl (by decide +kernel) ⟨Nat.le_of_ble_eq_true rfl, Nat.le_of_ble_eq_true rfl⟩) (g_preS hKN hP hD [] rfl (by decide)) rfl rfl hl.1 rfl (lv_room (Nat.le_of_ble_eq_true rfl)) dX5_ticksTillNext_35 ⟨Nat.le_of_ble_eq_true rfl, Nat.le_of_ble_eq_true rfl⟩) hP hD hS hA [] [0, 1, 2, 3, 4, 5] rfl rfl (by decide) (by decide) (fun r14210 u14211 H locs qu14211 hP hD hS => ?_)
    obtain ⟨b14212, b14213⟩ := qu14211
    have hP : va_P (dC, dI) vwCl [(hs, .inr (5, [.ref (sd 0), .ref (sd 1), .ref (sd 2), .ref (sd 3), .ref (sd 4), .ref (sd 5), .ref (sd 6), .int s_size, .int s_copier, .int s_copyLeft, .int s_tick, .int s_seed, .int s_dropped])), (sd 0, .inl (cyI, 6, .inl s_row)), (sd 1, .inl (cyI, 8, .inl s_has)), (sd 2, .inl (cyI, 8, .inl s_clean)), (sd 3, .inl (cyI, 328, .inl s_dn)), (sd 4, .inl (cyI, 328, .inl s_up))] H := hP
    have hD : va_D A [(hs, .inr (5, [.ref (sd 0), .ref (sd 1), .ref (sd 2), .ref (sd 3), .ref (sd 4), .ref (sd 5), .ref (sd 6), .int s_size, .int s_copier, .int s_copyLeft, .int s_tick, .int s_seed, .int s_dropped])), (sd 0, .inl (cyI, 6, .inl s_row)), (sd 1, .inl (cyI, 8, .inl s_has)), (sd 2, .inl (cyI, 8, .inl s_clean)), (sd 3, .inl (cyI, 328, .inl s_dn)), (sd 4, .inl (cyI, 328, .inl s_up))] := hD
    refine va_iald hx hb hK hP 4 1 rfl rfl (vp_i rfl (by omega) (by omega)) dX5_ticksTillNext_38 ?_
    refine lv_topi (fun z14214 ez14214 => ?_)
    refine lv_goto (tgt := 59) hx hb dX5_ticksTillNext_39 (by decide) ?_
    refine lv_istore (lv' := [(5, .int z14214), (4, .int z14198), (3, .int z14196), (0, .ref hs), (1, .int x1), (2, .int x2)]) hx hb dX5_ticksTillNext_59 hl (by decide) rfl (fun ls hl => ?_)
    refine lv_iload hx hb dX5_ticksTillNext_61 (lv_at hl 0 rfl) ?_
    refine lv_aload_n hx hb dX5_ticksTillNext_63 rfl (lv_at hl 3 rfl) ?_
    refine va_get (D := (dC, dI)) (ci := 5) (v := .int s_tick) (C := RX5) (T := TX5) (N := 13) hx hb hts hi5 hown hK hP 0 rfl rfl 10 (by decide) (hts _ (ow_m (k := 6) rfl)) (fun _ h9 => h9) rfl dX5_ticksTillNext_64 ?_
    refine lv_isub hx hb dX5_ticksTillNext_67 ?_
    refine lv_topi (fun z14215 ez14215 => ?_)
    exact W.iret (v := z14215) hx hb hr (fun t ht hW => ⟨⟨z14215, (), rfl, trivial, cE.of ht hP hD [0, 1, 2, 3, 4, 5] (by decide) rfl⟩, hS.F ht⟩) hS.2.2 dX5_ticksTillNext_68
def wo_k_X_layFour : List Cond := [.fieldLink RX6 79 "ReplicaChain" "tapeLength" "I", .fieldLink RX6 9 "ReplicaChain" "tape" "[B"]
def wq_k_X_layFour : List Cond := .code yX6_layFour cX6_layFour 3 none :: (wo_k_X_layFour ++ (wsX60 ++ []))
theorem gd_k_X_layFour : Gd wq_k_X_layFour := gd_c (gd_a (gd_o (by decide +kernel)) (gd_a gd_u gd_0))
abbrev wc_k_X_layFour (cyB cyI cyJ cyZ cyO : ClassId) (hX : Nat) (xd : Nat → Nat) (x_tape : Nat → Int32) (x_tapeLength : Int32) (x_at : Int32) (x_top : Int32) (x_lyingCount : Int32) (x_fewest : Int32) (x_time : Int32) (x1 : Int32) (hp : Nat) (hd : Nat) (hR0 : Nat) (hu : Nat) (hs : Nat) (hT : Nat) (hg : Nat) : va_W := [(hX, .inr (6, [.ref (xd 0), .int x_tapeLength, .ref hp, .ref hd, .ref hR0, .ref hu, .ref (xd 6), .int x_at, .int x_top, .ref hs, .ref hT, .ref (xd 11), .ref (xd 12), .ref (xd 13), .int x_lyingCount, .ref (xd 15), .int x_fewest, .ref hg, .ref (xd 18), .int x_time])), (xd 0, .inl (cyB, 1600, .inl x_tape))]
set_option maxHeartbeats 4000000 in
set_option maxRecDepth 100000 in
theorem k_X_layFour (l : Launch) (dC : Nat → ClassId) (dI : Nat → Nat → Nat) (cyB cyI cyJ cyZ cyO : ClassId) (hX : Nat) (xd : Nat → Nat) (x_tape : Nat → Int32) (x_tapeLength : Int32) (x_at : Int32) (x_top : Int32) (x_lyingCount : Int32) (x_fewest : Int32) (x_time : Int32) (x1 : Int32) (hp : Nat) (hd : Nat) (hR0 : Nat) (hu : Nat) (hs : Nat) (hT : Nat) (hg : Nat) (sz : Nat) (l_x_tapeLength : 0 ≤ x_tapeLength.toInt) (u_x_tapeLength : x_tapeLength.toInt ≤ 1600) (l_x_at : 0 ≤ x_at.toInt) (u_x_at : x_at.toInt ≤ 40) (l_x_top : 0 ≤ x_top.toInt) (u_x_top : x_top.toInt ≤ 40) (l_x_lyingCount : 0 ≤ x_lyingCount.toInt) (u_x_lyingCount : x_lyingCount.toInt ≤ 6) (l_x_time : 0 ≤ x_time.toInt) (u_x_time : x_time.toInt ≤ 100000) : Met l yX6_layFour wq_k_X_layFour ({ frames := 0, cells := 0, slots := 0, locals := 0 }) (va_Pc [.ref hX, .int x1] (cB (dC, dI) (kT cyB cyI cyJ cyZ cyO) (wc_k_X_layFour cyB cyI cyJ cyZ cyO hX xd x_tape x_tapeLength x_at x_top x_lyingCount x_fewest x_time x1 hp hd hR0 hu hs hT hg) sz)) (va_Qv (fun (u : ST4) => (0 ≤ (u.2.1 0).toInt) ∧ ((u.2.1 0).toInt ≤ 1600)) (fun (u : ST4) t => cE (dC, dI) (va_A (wc_k_X_layFour cyB cyI cyJ cyZ cyO hX xd x_tape x_tapeLength x_at x_top x_lyingCount x_fewest x_time x1 hp hd hR0 hu hs hT hg) sz) ([(hX, .inr (6, [.ref (xd 0), .int (u.2.1 0), .ref hp, .ref hd, .ref hR0, .ref hu, .ref (xd 6), .int x_at, .int x_top, .ref hs, .ref hT, .ref (xd 11), .ref (xd 12), .ref (xd 13), .int x_lyingCount, .ref (xd 15), .int x_fewest, .ref hg, .ref (xd 18), .int x_time])), (xd 0, .inl (cyB, 1600, .inl (u.1 0)))]) t.heap) (va_A (wc_k_X_layFour cyB cyI cyJ cyZ cyO hX xd x_tape x_tapeLength x_at x_top x_lyingCount x_fewest x_time x1 hp hd hR0 hu hs hT hg) sz)) 0 0 (va_A (wc_k_X_layFour cyB cyI cyJ cyZ cyO hX xd x_tape x_tapeLength x_at x_top x_lyingCount x_fewest x_time x1 hp hd hR0 hu hs hT hg) sz) := by
  refine Met.ofW (cc := cX6_layFour) (maxL := 3) (ret := none) (by decide) rfl ?_
  intro p e s m args below meth c s₁ B hml hv
  obtain ⟨rfl, hsz, hP, hKN, hD0⟩ := hv
  have hx := B.exec
  have hb := B.bytes
  have hr := B.returns
  have hts := atoms_spec (ws := wq_k_X_layFour) B.pre
  have hown : s.vm.findClass RX6 = some m.cls := findClass_of_methodNamed B.named
  have hlocks := B.notSynchronized
  have hK := hKN.1
  have hfix : CallFix p m c cX6_layFour 3 s [.ref hX, .int x1].toArray wq_k_X_layFour RX6 := ⟨hx, hb, hml, hown, hts⟩
  have hi6 : ∀ w ∈ wsX60, w ∈ wq_k_X_layFour := (sb_c sb_l)
  subst hsz
  have hD := hD0.self (sz := s.heap.size)
  generalize hAe : va_A (wc_k_X_layFour cyB cyI cyJ cyZ cyO hX xd x_tape x_tapeLength x_at x_top x_lyingCount x_fewest x_time x1 hp hd hR0 hu hs hT hg) s.heap.size = A at hD ⊢
  have hA : ∀ q : Nat, s.heap.size ≤ q → A q := fun q h => by rw [← hAe]; exact Or.inr h
  have hS : va_S A s.heap s.heap [] := va_S.rf
  have hl := lv_entry ([.ref hX, .int x1]) (n := 3) (Nat.le_of_ble_eq_true rfl)
  rw [lg_entry_eq]
  generalize (lg_sl ([.ref hX, .int x1]) ++ List.replicate (3 - (lg_sl ([.ref hX, .int x1])).length) Slot.unset).toArray = ls at hl ⊢
  have hl : lv_has ls 3 [(0, .ref hX), (1, .int x1)] := hl
  have ck24 : (24 : Int32).toInt = 24 := by decide
  refine lv_bipush (v := 24) hx hb dX6_layFour_0 (by decide) ?_
  refine lv_istore_n (lv' := [(2, .int 24), (0, .ref hX), (1, .int x1)]) hx hb dX6_layFour_2 rfl hl (by decide) rfl (fun ls hl => ?_)
  refine w_gen (fun H locs ls hP hS hl => ?_) hP hS hl
  obtain ⟨f14332, v14333, v14334, hl2, hP2, hD2, b14335, b14336, b14337, b14338⟩ : ∃ (f14332 : Nat → Int32) (v14333 : Int32) (v14334 : Int32), lv_has ls 3 [(2, .int v14334), (0, .ref hX), (1, .int x1)] ∧ va_P (dC, dI) vwCl [(hX, .inr (6, [.ref (xd 0), .int v14333, .ref hp, .ref hd, .ref hR0, .ref hu, .ref (xd 6), .int x_at, .int x_top, .ref hs, .ref hT, .ref (xd 11), .ref (xd 12), .ref (xd 13), .int x_lyingCount, .ref (xd 15), .int x_fewest, .ref hg, .ref (xd 18), .int x_time])), (xd 0, .inl (cyB, 1600, .inl f14332))] H ∧ va_D A [(hX, .inr (6, [.ref (xd 0), .int v14333, .ref hp, .ref hd, .ref hR0, .ref hu, .ref (xd 6), .int x_at, .int x_top, .ref hs, .ref hT, .ref (xd 11), .ref (xd 12), .ref (xd 13), .int x_lyingCount, .ref (xd 15), .int x_fewest, .ref hg, .ref (xd 18), .int x_time])), (xd 0, .inl (cyB, 1600, .inl f14332))] ∧ (0 ≤ v14333.toInt) ∧ (v14333.toInt ≤ 1600) ∧ (-39 ≤ v14334.toInt) ∧ (v14334.toInt ≤ 24) := ⟨x_tape, x_tapeLength, (24 : Int32), hl, hP, hD, by first | assumption | omega, by first | assumption | omega, by first | assumption | omega, by first | assumption | omega⟩
  clear hP hl
  have hP := hP2
  have hD := hD2
  have hl := hl2
  clear hP2 hD2 hl2
  obtain ⟨n14339, hn14339⟩ : ∃ n : Nat, v14334.toInt - (-39) < (n : Int) := ⟨(v14334.toInt - (-39)).toNat + 1, by omega⟩
  induction n14339 generalizing f14332 v14333 v14334 H locs ls with
  | zero => exfalso; omega
  | succ n14339 ih14340 =>
    refine lv_iload_n hx hb dX6_layFour_3 rfl (lv_at hl 0 rfl) ?_
    refine lv_if_lt (tgt := 48) hx hb dX6_layFour_4 (by decide) (fun c14341 => ?_) (fun c14341 => ?_)
    · have c14341 := i_lt (a := v14334.toInt) (b := 0) c14341 rfl (by decide)
      have w14342 : 0 ≤ v14333.toInt := by first | omega | assumption | rfl
      have w14343 : v14333.toInt ≤ 1600 := by first | omega | assumption | rfl
      exact W.vret hx hb hr (fun t ht hW => ⟨⟨((fun _ => f14332), (fun _ => v14333), (fun _ => 0), (fun _ => fun _ => 0)), rfl, ⟨w14342, w14343⟩, cE.of ht hP hD [0, 1] (by decide) rfl⟩, hS.F ht⟩) hS.2.2 dX6_layFour_48
    · have c14341 := i_nlt (a := v14334.toInt) (b := 0) c14341 rfl (by decide)
      refine lv_aload_n hx hb dX6_layFour_7 rfl (lv_at hl 1 rfl) ?_
      refine va_get (D := (dC, dI)) (ci := 6) (v := .int v14333) (C := RX6) (T := TX6) (N := 20) hx hb hts hi6 hown hK hP 0 rfl rfl 1 (by decide) (hts _ (ow_m (k := 0) rfl)) (fun _ h9 => h9) rfl dX6_layFour_8 ?_
      refine lv_aload_n hx hb dX6_layFour_11 rfl (lv_at hl 1 rfl) ?_
      refine va_get (D := (dC, dI)) (ci := 6) (v := .ref (xd 0)) (C := RX6) (T := TX6) (N := 20) hx hb hts hi6 hown hK hP 0 rfl rfl 0 (by decide) (hts _ (ow_m (k := 1) rfl)) (fun _ h9 => h9) rfl dX6_layFour_12 ?_
      refine va_alen (v := 1600) hx hb hK hP 1 0 rfl rfl rfl dX6_layFour_15 ?_
      refine lv_icmp_ge (tgt := 42) hx hb dX6_layFour_16 (by decide) (fun c14344 => ?_) (fun c14344 => ?_)
      · have c14344 := i_le (a := 1600) (b := v14333.toInt) c14344 (by decide) rfl
        obtain ⟨z14345, ez14345⟩ : ∃ y : Int32, y = v14334 + (-8) := ⟨_, rfl⟩
        have tz14345 := ti_add (a := v14334.toInt) (b := (-8)) ez14345 rfl (by decide) (by omega) (by omega)
        refine lv_iinc (v := z14345) (lv' := [(2, .int z14345), (0, .ref hX), (1, .int x1)]) hx hb dX6_layFour_42 hl (k := 0) rfl (by rw [ez14345]; rfl) (by decide) rfl (fun ls hl => ?_)
        refine lv_goto (tgt := 3) hx hb dX6_layFour_45 (by decide) ?_
        have hl := lv_sub (l' := [(2, .int z14345), (0, .ref hX), (1, .int x1)]) hl [0, 1, 2] rfl
        apply ih14340 (f14332 := f14332) (v14333 := v14333) (v14334 := z14345) (H := H) (locs := locs) (ls := ls) <;> first | assumption | omega
      · have c14344 := i_nle (a := 1600) (b := v14333.toInt) c14344 (by decide) rfl
        refine lv_aload_n hx hb dX6_layFour_19 rfl (lv_at hl 1 rfl) ?_
        refine va_get (D := (dC, dI)) (ci := 6) (v := .ref (xd 0)) (C := RX6) (T := TX6) (N := 20) hx hb hts hi6 hown hK hP 0 rfl rfl 0 (by decide) (hts _ (ow_m (k := 1) rfl)) (fun _ h9 => h9) rfl dX6_layFour_20 ?_
        refine lv_aload_n hx hb dX6_layFour_23 rfl (lv_at hl 1 rfl) ?_
        refine va_get (D := (dC, dI)) (ci := 6) (v := .int v14333) (C := RX6) (T := TX6) (N := 20) hx hb hts hi6 hown hK hP 0 rfl rfl 1 (by decide) (hts _ (ow_m (k := 0) rfl)) (fun _ h9 => h9) rfl dX6_layFour_24 ?_
        refine lv_iload_n hx hb dX6_layFour_27 rfl (lv_at hl 2 rfl) ?_
        refine lv_iload_n hx hb dX6_layFour_28 rfl (lv_at hl 0 rfl) ?_
        refine lv_iushr hx hb dX6_layFour_29 rfl ?_
        refine lv_topi (fun z14346 ez14346 => ?_)
        refine lv_i2b hx hb dX6_layFour_30 rfl ?_
        refine lv_topi (fun z14347 ez14347 => ?_)
        refine va_bast hx hb hK hP hD hS 1 0 rfl rfl (vp_i rfl (by omega) (by omega)) dX6_layFour_31 (fun H locs hP hD hS => ?_)
        have hP : va_P (dC, dI) vwCl [(hX, .inr (6, [.ref (xd 0), .int v14333, .ref hp, .ref hd, .ref hR0, .ref hu, .ref (xd 6), .int x_at, .int x_top, .ref hs, .ref hT, .ref (xd 11), .ref (xd 12), .ref (xd 13), .int x_lyingCount, .ref (xd 15), .int x_fewest, .ref hg, .ref (xd 18), .int x_time])), (xd 0, .inl (cyB, 1600, .inl (upd f14332 v14333.toNatClampNeg (vp_nar .byte z14347))))] H := hP
        have hD : va_D A [(hX, .inr (6, [.ref (xd 0), .int v14333, .ref hp, .ref hd, .ref hR0, .ref hu, .ref (xd 6), .int x_at, .int x_top, .ref hs, .ref hT, .ref (xd 11), .ref (xd 12), .ref (xd 13), .int x_lyingCount, .ref (xd 15), .int x_fewest, .ref hg, .ref (xd 18), .int x_time])), (xd 0, .inl (cyB, 1600, .inl (upd f14332 v14333.toNatClampNeg (vp_nar .byte z14347))))] := hD
        generalize ef14348 : upd f14332 v14333.toNatClampNeg (vp_nar .byte z14347) = f14348 at hP hD
        refine lv_aload_n hx hb dX6_layFour_32 rfl (lv_at hl 1 rfl) ?_
        refine lv_dup hx hb dX6_layFour_33 rfl ?_
        refine va_get (D := (dC, dI)) (ci := 6) (v := .int v14333) (C := RX6) (T := TX6) (N := 20) hx hb hts hi6 hown hK hP 0 rfl rfl 1 (by decide) (hts _ (ow_m (k := 0) rfl)) (fun _ h9 => h9) rfl dX6_layFour_34 ?_
        refine lv_iconst (v := 1) hx hb dX6_layFour_37 (by decide) ?_
        refine lv_iadd hx hb dX6_layFour_38 ?_
        refine lv_topi (fun z14349 ez14349 => ?_)
        have tz14349 := ti_add (a := v14333.toInt) (b := 1) ez14349 rfl (by decide) (by omega) (by omega)
        refine va_put (D := (dC, dI)) (ci := 6) (v := .int z14349) (ty := .int) (C := RX6) (T := TX6) (N := 20) hx hb hts hi6 tyX6 tyX6_ok nmX6 hown hK hP hD hS 0 rfl rfl 1 (by decide) (hts _ (ow_m (k := 0) rfl)) (fun _ h9 => h9) rfl (by decide +kernel) rfl rfl (Nat.le_of_ble_eq_true rfl) dX6_layFour_39 (fun H locs hP hD hS => ?_)
        have hP : va_P (dC, dI) vwCl [(hX, .inr (6, [.ref (xd 0), .int z14349, .ref hp, .ref hd, .ref hR0, .ref hu, .ref (xd 6), .int x_at, .int x_top, .ref hs, .ref hT, .ref (xd 11), .ref (xd 12), .ref (xd 13), .int x_lyingCount, .ref (xd 15), .int x_fewest, .ref hg, .ref (xd 18), .int x_time])), (xd 0, .inl (cyB, 1600, .inl f14348))] H := hP
        have hD : va_D A [(hX, .inr (6, [.ref (xd 0), .int z14349, .ref hp, .ref hd, .ref hR0, .ref hu, .ref (xd 6), .int x_at, .int x_top, .ref hs, .ref hT, .ref (xd 11), .ref (xd 12), .ref (xd 13), .int x_lyingCount, .ref (xd 15), .int x_fewest, .ref hg, .ref (xd 18), .int x_time])), (xd 0, .inl (cyB, 1600, .inl f14348))] := hD
        obtain ⟨z14350, ez14350⟩ : ∃ y : Int32, y = v14334 + (-8) := ⟨_, rfl⟩
        have tz14350 := ti_add (a := v14334.toInt) (b := (-8)) ez14350 rfl (by decide) (by omega) (by omega)
        refine lv_iinc (v := z14350) (lv' := [(2, .int z14350), (0, .ref hX), (1, .int x1)]) hx hb dX6_layFour_42 hl (k := 0) rfl (by rw [ez14350]; rfl) (by decide) rfl (fun ls hl => ?_)
        refine lv_goto (tgt := 3) hx hb dX6_layFour_45 (by decide) ?_
        have hl := lv_sub (l' := [(2, .int z14350), (0, .ref hX), (1, .int x1)]) hl [0, 1, 2] rfl
        apply ih14340 (f14332 := f14348) (v14333 := z14349) (v14334 := z14350) (H := H) (locs := locs) (ls := ls) <;> first | assumption | omega
def wo_k_X_feed : List Cond := [.fieldLink RX6 79 "ReplicaChain" "tapeLength" "I", .methodLink RX6 83 yX6_layFour, .instanceMethod yX6_layFour, .selects RX6 yX6_layFour yX6_layFour, .initialized RX6]
def wq_k_X_feed : List Cond := .code yX6_feed cX6_feed 6 (some .int) :: (wo_k_X_feed ++ (wq_k_X_layFour ++ (wsX60 ++ [])))
theorem gd_k_X_feed : Gd wq_k_X_feed := gd_c (gd_a (gd_o (by decide +kernel)) (gd_a gd_k_X_layFour (gd_a gd_u gd_0)))
abbrev wc_k_X_feed (cyB cyI cyJ cyZ cyO : ClassId) (hX : Nat) (xd : Nat → Nat) (x_tape : Nat → Int32) (x_tapeLength : Int32) (x_at : Int32) (x_top : Int32) (x_lyingCount : Int32) (x_fewest : Int32) (x_time : Int32) (x1 : Int32) (x2 : Int32) (x3 : Int32) (x4 : Int32) (x5 : Int32) (hp : Nat) (hd : Nat) (hR0 : Nat) (hu : Nat) (hs : Nat) (hT : Nat) (hg : Nat) : va_W := [(hX, .inr (6, [.ref (xd 0), .int x_tapeLength, .ref hp, .ref hd, .ref hR0, .ref hu, .ref (xd 6), .int x_at, .int x_top, .ref hs, .ref hT, .ref (xd 11), .ref (xd 12), .ref (xd 13), .int x_lyingCount, .ref (xd 15), .int x_fewest, .ref hg, .ref (xd 18), .int x_time])), (xd 0, .inl (cyB, 1600, .inl x_tape))]
set_option maxHeartbeats 4000000 in
set_option maxRecDepth 100000 in
theorem k_X_feed (l : Launch) (dC : Nat → ClassId) (dI : Nat → Nat → Nat) (cyB cyI cyJ cyZ cyO : ClassId) (hX : Nat) (xd : Nat → Nat) (x_tape : Nat → Int32) (x_tapeLength : Int32) (x_at : Int32) (x_top : Int32) (x_lyingCount : Int32) (x_fewest : Int32) (x_time : Int32) (x1 : Int32) (x2 : Int32) (x3 : Int32) (x4 : Int32) (x5 : Int32) (hp : Nat) (hd : Nat) (hR0 : Nat) (hu : Nat) (hs : Nat) (hT : Nat) (hg : Nat) (sz : Nat) (l_x_tapeLength : 0 ≤ x_tapeLength.toInt) (u_x_tapeLength : x_tapeLength.toInt ≤ 1600) (l_x_at : 0 ≤ x_at.toInt) (u_x_at : x_at.toInt ≤ 40) (l_x_top : 0 ≤ x_top.toInt) (u_x_top : x_top.toInt ≤ 40) (l_x_lyingCount : 0 ≤ x_lyingCount.toInt) (u_x_lyingCount : x_lyingCount.toInt ≤ 6) (l_x_time : 0 ≤ x_time.toInt) (u_x_time : x_time.toInt ≤ 100000) : Met l yX6_feed wq_k_X_feed ({ frames := 1, cells := 0, slots := 0, locals := 22 }) (va_Pc [.ref hX, .int x1, .int x2, .int x3, .int x4, .int x5] (cB (dC, dI) (kT cyB cyI cyJ cyZ cyO) (wc_k_X_feed cyB cyI cyJ cyZ cyO hX xd x_tape x_tapeLength x_at x_top x_lyingCount x_fewest x_time x1 x2 x3 x4 x5 hp hd hR0 hu hs hT hg) sz)) (va_Qi (fun (r : Int32) (u : ST4) => (-1 ≤ r.toInt) ∧ (r.toInt ≤ 1600) ∧ (0 ≤ (u.2.1 0).toInt) ∧ ((u.2.1 0).toInt ≤ 1600)) (fun (u : ST4) t => cE (dC, dI) (va_A (wc_k_X_feed cyB cyI cyJ cyZ cyO hX xd x_tape x_tapeLength x_at x_top x_lyingCount x_fewest x_time x1 x2 x3 x4 x5 hp hd hR0 hu hs hT hg) sz) ([(hX, .inr (6, [.ref (xd 0), .int (u.2.1 0), .ref hp, .ref hd, .ref hR0, .ref hu, .ref (xd 6), .int x_at, .int x_top, .ref hs, .ref hT, .ref (xd 11), .ref (xd 12), .ref (xd 13), .int x_lyingCount, .ref (xd 15), .int x_fewest, .ref hg, .ref (xd 18), .int x_time])), (xd 0, .inl (cyB, 1600, .inl (u.1 0)))]) t.heap) (va_A (wc_k_X_feed cyB cyI cyJ cyZ cyO hX xd x_tape x_tapeLength x_at x_top x_lyingCount x_fewest x_time x1 x2 x3 x4 x5 hp hd hR0 hu hs hT hg) sz)) 0 0 (va_A (wc_k_X_feed cyB cyI cyJ cyZ cyO hX xd x_tape x_tapeLength x_at x_top x_lyingCount x_fewest x_time x1 x2 x3 x4 x5 hp hd hR0 hu hs hT hg) sz) := by
  refine Met.ofW (cc := cX6_feed) (maxL := 6) (ret := (some .int)) (by decide) rfl ?_
  intro p e s m args below meth c s₁ B hml hv
  obtain ⟨rfl, hsz, hP, hKN, hD0⟩ := hv
  have hx := B.exec
  have hb := B.bytes
  have hr := B.returns
  have hts := atoms_spec (ws := wq_k_X_feed) B.pre
  have hown : s.vm.findClass RX6 = some m.cls := findClass_of_methodNamed B.named
  have hlocks := B.notSynchronized
  have hK := hKN.1
  have hfix : CallFix p m c cX6_feed 6 s [.ref hX, .int x1, .int x2, .int x3, .int x4, .int x5].toArray wq_k_X_feed RX6 := ⟨hx, hb, hml, hown, hts⟩
  have hi6 : ∀ w ∈ wsX60, w ∈ wq_k_X_feed := (sb_c (sb_r sb_l))
  subst hsz
  have hD := hD0.self (sz := s.heap.size)
  generalize hAe : va_A (wc_k_X_feed cyB cyI cyJ cyZ cyO hX xd x_tape x_tapeLength x_at x_top x_lyingCount x_fewest x_time x1 x2 x3 x4 x5 hp hd hR0 hu hs hT hg) s.heap.size = A at hD ⊢
  have hA : ∀ q : Nat, s.heap.size ≤ q → A q := fun q h => by rw [← hAe]; exact Or.inr h
  have hS : va_S A s.heap s.heap [] := va_S.rf
  have hl := lv_entry ([.ref hX, .int x1, .int x2, .int x3, .int x4, .int x5]) (n := 6) (Nat.le_of_ble_eq_true rfl)
  rw [lg_entry_eq]
  generalize (lg_sl ([.ref hX, .int x1, .int x2, .int x3, .int x4, .int x5]) ++ List.replicate (6 - (lg_sl ([.ref hX, .int x1, .int x2, .int x3, .int x4, .int x5])).length) Slot.unset).toArray = ls at hl ⊢
  have hl : lv_has ls 6 [(0, .ref hX), (1, .int x1), (2, .int x2), (3, .int x3), (4, .int x4), (5, .int x5)] := hl
  have ckm1 : (-1 : Int32).toInt = -1 := by decide
  refine lv_aload_n hx hb dX6_feed_0 rfl (lv_at hl 0 rfl) ?_
  refine va_get (D := (dC, dI)) (ci := 6) (v := .int x_tapeLength) (C := RX6) (T := TX6) (N := 20) hx hb hts hi6 hown hK hP 0 rfl rfl 1 (by decide) (hts _ (ow_m (k := 0) rfl)) (fun _ h9 => h9) rfl dX6_feed_1 ?_
  refine lv_bipush (v := 20) hx hb dX6_feed_4 (by decide) ?_
  refine lv_iadd hx hb dX6_feed_6 ?_
  refine lv_topi (fun z14395 ez14395 => ?_)
  have tz14395 := ti_add (a := x_tapeLength.toInt) (b := 20) ez14395 rfl (by decide) (by omega) (by omega)
  refine lv_sipush (v := 1600) hx hb dX6_feed_7 (by decide) ?_
  refine lv_icmp_le (tgt := 15) hx hb dX6_feed_10 (by decide) (fun c14396 => ?_) (fun c14396 => ?_)
  · have c14396 := i_le (a := z14395.toInt) (b := 1600) c14396 rfl (by decide)
    refine lv_aload_n hx hb dX6_feed_15 rfl (lv_at hl 0 rfl) ?_
    refine lv_iload_n hx hb dX6_feed_16 rfl (lv_at hl 1 rfl) ?_
    refine gf_v (wr := []) (va_runV (As := [.int x1]) (rest := []) hfix (k_X_layFour l dC dI cyB cyI cyJ cyZ cyO hX xd x_tape x_tapeLength x_at x_top x_lyingCount x_fewest x_time x1 hp hd hR0 hu hs hT hg _ (by first | omega | assumption) (by first | omega | assumption) (by first | omega | assumption) (by first | omega | assumption) (by first | omega | assumption) (by first | omega | assumption) (by first | omega | assumption) (by first | omega | assumption) (by first | omega | assumption) (by first | omega | assumption)) (cwV 1 hts (gi_V (ow_m (k := 1) rfl) (ow_m (k := 2) rfl) (ow_m (k := 3) rfl) (ow_m (k := 4) rfl) (sb_c sb_l) gd_k_X_layFour) rfl rfl rfl (by decide +kernel) ⟨Nat.le_of_ble_eq_true rfl, Nat.le_of_ble_eq_true rfl⟩) (g_preV hKN hP hD [0, 1] rfl (by decide) 0 6 rfl rfl) rfl rfl hl.1 rfl (lv_room (Nat.le_of_ble_eq_true rfl)) dX6_feed_17 ⟨Nat.le_of_ble_eq_true rfl, Nat.le_of_ble_eq_true rfl⟩) hP hD hS hA [0, 1] [] rfl rfl (by decide) (by decide) (fun u14398 H locs qu14398 hP hD hS => ?_)
    obtain ⟨b14399, b14400⟩ := qu14398
    have hP : va_P (dC, dI) vwCl [(hX, .inr (6, [.ref (xd 0), .int (u14398.2.1 0), .ref hp, .ref hd, .ref hR0, .ref hu, .ref (xd 6), .int x_at, .int x_top, .ref hs, .ref hT, .ref (xd 11), .ref (xd 12), .ref (xd 13), .int x_lyingCount, .ref (xd 15), .int x_fewest, .ref hg, .ref (xd 18), .int x_time])), (xd 0, .inl (cyB, 1600, .inl (u14398.1 0)))] H := hP
    have hD : va_D A [(hX, .inr (6, [.ref (xd 0), .int (u14398.2.1 0), .ref hp, .ref hd, .ref hR0, .ref hu, .ref (xd 6), .int x_at, .int x_top, .ref hs, .ref hT, .ref (xd 11), .ref (xd 12), .ref (xd 13), .int x_lyingCount, .ref (xd 15), .int x_fewest, .ref hg, .ref (xd 18), .int x_time])), (xd 0, .inl (cyB, 1600, .inl (u14398.1 0)))] := hD
    refine lv_aload_n hx hb dX6_feed_20 rfl (lv_at hl 0 rfl) ?_
    refine lv_iload_n hx hb dX6_feed_21 rfl (lv_at hl 2 rfl) ?_
    refine gf_v (wr := []) (va_runV (As := [.int x2]) (rest := []) hfix (k_X_layFour l dC dI cyB cyI cyJ cyZ cyO hX xd (u14398.1 0) (u14398.2.1 0) x_at x_top x_lyingCount x_fewest x_time x2 hp hd hR0 hu hs hT hg _ (by first | omega | assumption) (by first | omega | assumption) (by first | omega | assumption) (by first | omega | assumption) (by first | omega | assumption) (by first | omega | assumption) (by first | omega | assumption) (by first | omega | assumption) (by first | omega | assumption) (by first | omega | assumption)) (cwV 1 hts (gi_V (ow_m (k := 1) rfl) (ow_m (k := 2) rfl) (ow_m (k := 3) rfl) (ow_m (k := 4) rfl) (sb_c sb_l) gd_k_X_layFour) rfl rfl rfl (by decide +kernel) ⟨Nat.le_of_ble_eq_true rfl, Nat.le_of_ble_eq_true rfl⟩) (g_preV hKN hP hD [0, 1] rfl (by decide) 0 6 rfl rfl) rfl rfl hl.1 rfl (lv_room (Nat.le_of_ble_eq_true rfl)) dX6_feed_22 ⟨Nat.le_of_ble_eq_true rfl, Nat.le_of_ble_eq_true rfl⟩) hP hD hS hA [0, 1] [] rfl rfl (by decide) (by decide) (fun u14402 H locs qu14402 hP hD hS => ?_)
    obtain ⟨b14403, b14404⟩ := qu14402
    have hP : va_P (dC, dI) vwCl [(hX, .inr (6, [.ref (xd 0), .int (u14402.2.1 0), .ref hp, .ref hd, .ref hR0, .ref hu, .ref (xd 6), .int x_at, .int x_top, .ref hs, .ref hT, .ref (xd 11), .ref (xd 12), .ref (xd 13), .int x_lyingCount, .ref (xd 15), .int x_fewest, .ref hg, .ref (xd 18), .int x_time])), (xd 0, .inl (cyB, 1600, .inl (u14402.1 0)))] H := hP
    have hD : va_D A [(hX, .inr (6, [.ref (xd 0), .int (u14402.2.1 0), .ref hp, .ref hd, .ref hR0, .ref hu, .ref (xd 6), .int x_at, .int x_top, .ref hs, .ref hT, .ref (xd 11), .ref (xd 12), .ref (xd 13), .int x_lyingCount, .ref (xd 15), .int x_fewest, .ref hg, .ref (xd 18), .int x_time])), (xd 0, .inl (cyB, 1600, .inl (u14402.1 0)))] := hD
    refine lv_aload_n hx hb dX6_feed_25 rfl (lv_at hl 0 rfl) ?_
    refine lv_iload_n hx hb dX6_feed_26 rfl (lv_at hl 3 rfl) ?_
    refine gf_v (wr := []) (va_runV (As := [.int x3]) (rest := []) hfix (k_X_layFour l dC dI cyB cyI cyJ cyZ cyO hX xd (u14402.1 0) (u14402.2.1 0) x_at x_top x_lyingCount x_fewest x_time x3 hp hd hR0 hu hs hT hg _ (by first | omega | assumption) (by first | omega | assumption) (by first | omega | assumption) (by first | omega | assumption) (by first | omega | assumption) (by first | omega | assumption) (by first | omega | assumption) (by first | omega | assumption) (by first | omega | assumption) (by first | omega | assumption)) (cwV 1 hts (gi_V (ow_m (k := 1) rfl) (ow_m (k := 2) rfl) (ow_m (k := 3) rfl) (ow_m (k := 4) rfl) (sb_c sb_l) gd_k_X_layFour) rfl rfl rfl (by decide +kernel) ⟨Nat.le_of_ble_eq_true rfl, Nat.le_of_ble_eq_true rfl⟩) (g_preV hKN hP hD [0, 1] rfl (by decide) 0 6 rfl rfl) rfl rfl hl.1 rfl (lv_room (Nat.le_of_ble_eq_true rfl)) dX6_feed_27 ⟨Nat.le_of_ble_eq_true rfl, Nat.le_of_ble_eq_true rfl⟩) hP hD hS hA [0, 1] [] rfl rfl (by decide) (by decide) (fun u14406 H locs qu14406 hP hD hS => ?_)
    obtain ⟨b14407, b14408⟩ := qu14406
    have hP : va_P (dC, dI) vwCl [(hX, .inr (6, [.ref (xd 0), .int (u14406.2.1 0), .ref hp, .ref hd, .ref hR0, .ref hu, .ref (xd 6), .int x_at, .int x_top, .ref hs, .ref hT, .ref (xd 11), .ref (xd 12), .ref (xd 13), .int x_lyingCount, .ref (xd 15), .int x_fewest, .ref hg, .ref (xd 18), .int x_time])), (xd 0, .inl (cyB, 1600, .inl (u14406.1 0)))] H := hP
    have hD : va_D A [(hX, .inr (6, [.ref (xd 0), .int (u14406.2.1 0), .ref hp, .ref hd, .ref hR0, .ref hu, .ref (xd 6), .int x_at, .int x_top, .ref hs, .ref hT, .ref (xd 11), .ref (xd 12), .ref (xd 13), .int x_lyingCount, .ref (xd 15), .int x_fewest, .ref hg, .ref (xd 18), .int x_time])), (xd 0, .inl (cyB, 1600, .inl (u14406.1 0)))] := hD
    refine lv_aload_n hx hb dX6_feed_30 rfl (lv_at hl 0 rfl) ?_
    refine lv_iload hx hb dX6_feed_31 (lv_at hl 4 rfl) ?_
    refine gf_v (wr := []) (va_runV (As := [.int x4]) (rest := []) hfix (k_X_layFour l dC dI cyB cyI cyJ cyZ cyO hX xd (u14406.1 0) (u14406.2.1 0) x_at x_top x_lyingCount x_fewest x_time x4 hp hd hR0 hu hs hT hg _ (by first | omega | assumption) (by first | omega | assumption) (by first | omega | assumption) (by first | omega | assumption) (by first | omega | assumption) (by first | omega | assumption) (by first | omega | assumption) (by first | omega | assumption) (by first | omega | assumption) (by first | omega | assumption)) (cwV 1 hts (gi_V (ow_m (k := 1) rfl) (ow_m (k := 2) rfl) (ow_m (k := 3) rfl) (ow_m (k := 4) rfl) (sb_c sb_l) gd_k_X_layFour) rfl rfl rfl (by decide +kernel) ⟨Nat.le_of_ble_eq_true rfl, Nat.le_of_ble_eq_true rfl⟩) (g_preV hKN hP hD [0, 1] rfl (by decide) 0 6 rfl rfl) rfl rfl hl.1 rfl (lv_room (Nat.le_of_ble_eq_true rfl)) dX6_feed_33 ⟨Nat.le_of_ble_eq_true rfl, Nat.le_of_ble_eq_true rfl⟩) hP hD hS hA [0, 1] [] rfl rfl (by decide) (by decide) (fun u14410 H locs qu14410 hP hD hS => ?_)
    obtain ⟨b14411, b14412⟩ := qu14410
    have hP : va_P (dC, dI) vwCl [(hX, .inr (6, [.ref (xd 0), .int (u14410.2.1 0), .ref hp, .ref hd, .ref hR0, .ref hu, .ref (xd 6), .int x_at, .int x_top, .ref hs, .ref hT, .ref (xd 11), .ref (xd 12), .ref (xd 13), .int x_lyingCount, .ref (xd 15), .int x_fewest, .ref hg, .ref (xd 18), .int x_time])), (xd 0, .inl (cyB, 1600, .inl (u14410.1 0)))] H := hP
    have hD : va_D A [(hX, .inr (6, [.ref (xd 0), .int (u14410.2.1 0), .ref hp, .ref hd, .ref hR0, .ref hu, .ref (xd 6), .int x_at, .int x_top, .ref hs, .ref hT, .ref (xd 11), .ref (xd 12), .ref (xd 13), .int x_lyingCount, .ref (xd 15), .int x_fewest, .ref hg, .ref (xd 18), .int x_time])), (xd 0, .inl (cyB, 1600, .inl (u14410.1 0)))] := hD
    refine lv_aload_n hx hb dX6_feed_36 rfl (lv_at hl 0 rfl) ?_
    refine lv_iload hx hb dX6_feed_37 (lv_at hl 5 rfl) ?_
    refine gf_v (wr := []) (va_runV (As := [.int x5]) (rest := []) hfix (k_X_layFour l dC dI cyB cyI cyJ cyZ cyO hX xd (u14410.1 0) (u14410.2.1 0) x_at x_top x_lyingCount x_fewest x_time x5 hp hd hR0 hu hs hT hg _ (by first | omega | assumption) (by first | omega | assumption) (by first | omega | assumption) (by first | omega | assumption) (by first | omega | assumption) (by first | omega | assumption) (by first | omega | assumption) (by first | omega | assumption) (by first | omega | assumption) (by first | omega | assumption)) (cwV 1 hts (gi_V (ow_m (k := 1) rfl) (ow_m (k := 2) rfl) (ow_m (k := 3) rfl) (ow_m (k := 4) rfl) (sb_c sb_l) gd_k_X_layFour) rfl rfl rfl (by decide +kernel) ⟨Nat.le_of_ble_eq_true rfl, Nat.le_of_ble_eq_true rfl⟩) (g_preV hKN hP hD [0, 1] rfl (by decide) 0 6 rfl rfl) rfl rfl hl.1 rfl (lv_room (Nat.le_of_ble_eq_true rfl)) dX6_feed_39 ⟨Nat.le_of_ble_eq_true rfl, Nat.le_of_ble_eq_true rfl⟩) hP hD hS hA [0, 1] [] rfl rfl (by decide) (by decide) (fun u14414 H locs qu14414 hP hD hS => ?_)
    obtain ⟨b14415, b14416⟩ := qu14414
    have hP : va_P (dC, dI) vwCl [(hX, .inr (6, [.ref (xd 0), .int (u14414.2.1 0), .ref hp, .ref hd, .ref hR0, .ref hu, .ref (xd 6), .int x_at, .int x_top, .ref hs, .ref hT, .ref (xd 11), .ref (xd 12), .ref (xd 13), .int x_lyingCount, .ref (xd 15), .int x_fewest, .ref hg, .ref (xd 18), .int x_time])), (xd 0, .inl (cyB, 1600, .inl (u14414.1 0)))] H := hP
    have hD : va_D A [(hX, .inr (6, [.ref (xd 0), .int (u14414.2.1 0), .ref hp, .ref hd, .ref hR0, .ref hu, .ref (xd 6), .int x_at, .int x_top, .ref hs, .ref hT, .ref (xd 11), .ref (xd 12), .ref (xd 13), .int x_lyingCount, .ref (xd 15), .int x_fewest, .ref hg, .ref (xd 18), .int x_time])), (xd 0, .inl (cyB, 1600, .inl (u14414.1 0)))] := hD
    refine lv_aload_n hx hb dX6_feed_42 rfl (lv_at hl 0 rfl) ?_
    refine va_get (D := (dC, dI)) (ci := 6) (v := .int (u14414.2.1 0)) (C := RX6) (T := TX6) (N := 20) hx hb hts hi6 hown hK hP 0 rfl rfl 1 (by decide) (hts _ (ow_m (k := 0) rfl)) (fun _ h9 => h9) rfl dX6_feed_43 ?_
    have w14417 : -1 ≤ (u14414.2.1 0).toInt := by first | omega | assumption | rfl
    have w14418 : (u14414.2.1 0).toInt ≤ 1600 := by first | omega | assumption | rfl
    have w14419 : 0 ≤ (u14414.2.1 0).toInt := by first | omega | assumption | rfl
    have w14420 : (u14414.2.1 0).toInt ≤ 1600 := by first | omega | assumption | rfl
    exact W.iret (v := u14414.2.1 0) hx hb hr (fun t ht hW => ⟨⟨u14414.2.1 0, ((fun _ => u14414.1 0), (fun _ => u14414.2.1 0), (fun _ => 0), (fun _ => fun _ => 0)), rfl, ⟨w14417, w14418, w14419, w14420⟩, cE.of ht hP hD [0, 1] (by decide) rfl⟩, hS.F ht⟩) hS.2.2 dX6_feed_46
  · have c14396 := i_nle (a := z14395.toInt) (b := 1600) c14396 rfl (by decide)
    refine lv_iconst (v := (-1)) hx hb dX6_feed_13 (by decide) ?_
    have w14421 : -1 ≤ (-1 : Int32).toInt := by first | omega | assumption | rfl
    have w14422 : (-1 : Int32).toInt ≤ 1600 := by first | omega | assumption | rfl
    have w14423 : 0 ≤ x_tapeLength.toInt := by first | omega | assumption | rfl
    have w14424 : x_tapeLength.toInt ≤ 1600 := by first | omega | assumption | rfl
    exact W.iret (v := (-1)) hx hb hr (fun t ht hW => ⟨⟨(-1), ((fun _ => x_tape), (fun _ => x_tapeLength), (fun _ => 0), (fun _ => fun _ => 0)), rfl, ⟨w14421, w14422, w14423, w14424⟩, cE.of ht hP hD [0, 1] (by decide) rfl⟩, hS.F ht⟩) hS.2.2 dX6_feed_14
def wo_k_X_end : List Cond := [.fieldLink RX6 79 "ReplicaChain" "tapeLength" "I"]
def wq_k_X_end : List Cond := .code yX6_end cX6_end 2 (some .int) :: (wo_k_X_end ++ (wsX60 ++ []))
theorem gd_k_X_end : Gd wq_k_X_end := gd_c (gd_a (gd_o (by decide +kernel)) (gd_a gd_u gd_0))
abbrev wc_k_X_end (cyB cyI cyJ cyZ cyO : ClassId) (hX : Nat) (xd : Nat → Nat) (x_tapeLength : Int32) (x_at : Int32) (x_top : Int32) (x_lyingCount : Int32) (x_fewest : Int32) (x_time : Int32) (x1 : Int32) (hp : Nat) (hd : Nat) (hR0 : Nat) (hu : Nat) (hs : Nat) (hT : Nat) (hg : Nat) : va_W := [(hX, .inr (6, [.ref (xd 0), .int x_tapeLength, .ref hp, .ref hd, .ref hR0, .ref hu, .ref (xd 6), .int x_at, .int x_top, .ref hs, .ref hT, .ref (xd 11), .ref (xd 12), .ref (xd 13), .int x_lyingCount, .ref (xd 15), .int x_fewest, .ref hg, .ref (xd 18), .int x_time]))]
set_option maxHeartbeats 4000000 in
set_option maxRecDepth 100000 in
theorem k_X_end (l : Launch) (dC : Nat → ClassId) (dI : Nat → Nat → Nat) (cyB cyI cyJ cyZ cyO : ClassId) (hX : Nat) (xd : Nat → Nat) (x_tapeLength : Int32) (x_at : Int32) (x_top : Int32) (x_lyingCount : Int32) (x_fewest : Int32) (x_time : Int32) (x1 : Int32) (hp : Nat) (hd : Nat) (hR0 : Nat) (hu : Nat) (hs : Nat) (hT : Nat) (hg : Nat) (sz : Nat) (l_x_tapeLength : 0 ≤ x_tapeLength.toInt) (u_x_tapeLength : x_tapeLength.toInt ≤ 1600) (l_x_at : 0 ≤ x_at.toInt) (u_x_at : x_at.toInt ≤ 40) (l_x_top : 0 ≤ x_top.toInt) (u_x_top : x_top.toInt ≤ 40) (l_x_lyingCount : 0 ≤ x_lyingCount.toInt) (u_x_lyingCount : x_lyingCount.toInt ≤ 6) (l_x_time : 0 ≤ x_time.toInt) (u_x_time : x_time.toInt ≤ 100000) : Met l yX6_end wq_k_X_end ({ frames := 0, cells := 0, slots := 0, locals := 0 }) (va_Pc [.ref hX, .int x1] (cB (dC, dI) (kT cyB cyI cyJ cyZ cyO) (wc_k_X_end cyB cyI cyJ cyZ cyO hX xd x_tapeLength x_at x_top x_lyingCount x_fewest x_time x1 hp hd hR0 hu hs hT hg) sz)) (va_Qi (fun (r : Int32) (u : ST4) => (-1 ≤ r.toInt) ∧ (r.toInt ≤ 1600) ∧ (0 ≤ (u.2.1 0).toInt) ∧ ((u.2.1 0).toInt ≤ 1600)) (fun (u : ST4) t => cE (dC, dI) (va_A (wc_k_X_end cyB cyI cyJ cyZ cyO hX xd x_tapeLength x_at x_top x_lyingCount x_fewest x_time x1 hp hd hR0 hu hs hT hg) sz) ([(hX, .inr (6, [.ref (xd 0), .int (u.2.1 0), .ref hp, .ref hd, .ref hR0, .ref hu, .ref (xd 6), .int x_at, .int x_top, .ref hs, .ref hT, .ref (xd 11), .ref (xd 12), .ref (xd 13), .int x_lyingCount, .ref (xd 15), .int x_fewest, .ref hg, .ref (xd 18), .int x_time]))]) t.heap) (va_A (wc_k_X_end cyB cyI cyJ cyZ cyO hX xd x_tapeLength x_at x_top x_lyingCount x_fewest x_time x1 hp hd hR0 hu hs hT hg) sz)) 0 0 (va_A (wc_k_X_end cyB cyI cyJ cyZ cyO hX xd x_tapeLength x_at x_top x_lyingCount x_fewest x_time x1 hp hd hR0 hu hs hT hg) sz) := by
  refine Met.ofW (cc := cX6_end) (maxL := 2) (ret := (some .int)) (by decide) rfl ?_
  intro p e s m args below meth c s₁ B hml hv
  obtain ⟨rfl, hsz, hP, hKN, hD0⟩ := hv
  have hx := B.exec
  have hb := B.bytes
  have hr := B.returns
  have hts := atoms_spec (ws := wq_k_X_end) B.pre
  have hown : s.vm.findClass RX6 = some m.cls := findClass_of_methodNamed B.named
  have hlocks := B.notSynchronized
  have hK := hKN.1
  have hfix : CallFix p m c cX6_end 2 s [.ref hX, .int x1].toArray wq_k_X_end RX6 := ⟨hx, hb, hml, hown, hts⟩
  have hi6 : ∀ w ∈ wsX60, w ∈ wq_k_X_end := (sb_c sb_l)
  subst hsz
  have hD := hD0.self (sz := s.heap.size)
  generalize hAe : va_A (wc_k_X_end cyB cyI cyJ cyZ cyO hX xd x_tapeLength x_at x_top x_lyingCount x_fewest x_time x1 hp hd hR0 hu hs hT hg) s.heap.size = A at hD ⊢
  have hA : ∀ q : Nat, s.heap.size ≤ q → A q := fun q h => by rw [← hAe]; exact Or.inr h
  have hS : va_S A s.heap s.heap [] := va_S.rf
  have hl := lv_entry ([.ref hX, .int x1]) (n := 2) (Nat.le_of_ble_eq_true rfl)
  rw [lg_entry_eq]
  generalize (lg_sl ([.ref hX, .int x1]) ++ List.replicate (2 - (lg_sl ([.ref hX, .int x1])).length) Slot.unset).toArray = ls at hl ⊢
  have hl : lv_has ls 2 [(0, .ref hX), (1, .int x1)] := hl
  have ckm1 : (-1 : Int32).toInt = -1 := by decide
  refine lv_iload_n hx hb dX6_end_0 rfl (lv_at hl 1 rfl) ?_
  refine lv_if_lt (tgt := 12) hx hb dX6_end_1 (by decide) (fun c14429 => ?_) (fun c14429 => ?_)
  · have c14429 := i_lt (a := x1.toInt) (b := 0) c14429 rfl (by decide)
    refine lv_iconst (v := (-1)) hx hb dX6_end_12 (by decide) ?_
    have w14430 : -1 ≤ (-1 : Int32).toInt := by first | omega | assumption | rfl
    have w14431 : (-1 : Int32).toInt ≤ 1600 := by first | omega | assumption | rfl
    have w14432 : 0 ≤ x_tapeLength.toInt := by first | omega | assumption | rfl
    have w14433 : x_tapeLength.toInt ≤ 1600 := by first | omega | assumption | rfl
    exact W.iret (v := (-1)) hx hb hr (fun t ht hW => ⟨⟨(-1), ((fun _ => fun _ => 0), (fun _ => x_tapeLength), (fun _ => 0), (fun _ => fun _ => 0)), rfl, ⟨w14430, w14431, w14432, w14433⟩, cE.of ht hP hD [0] (by decide) rfl⟩, hS.F ht⟩) hS.2.2 dX6_end_13
  · have c14429 := i_nlt (a := x1.toInt) (b := 0) c14429 rfl (by decide)
    refine lv_iload_n hx hb dX6_end_4 rfl (lv_at hl 1 rfl) ?_
    refine lv_aload_n hx hb dX6_end_5 rfl (lv_at hl 0 rfl) ?_
    refine va_get (D := (dC, dI)) (ci := 6) (v := .int x_tapeLength) (C := RX6) (T := TX6) (N := 20) hx hb hts hi6 hown hK hP 0 rfl rfl 1 (by decide) (hts _ (ow_m (k := 0) rfl)) (fun _ h9 => h9) rfl dX6_end_6 ?_
    refine lv_icmp_le (tgt := 14) hx hb dX6_end_9 (by decide) (fun c14434 => ?_) (fun c14434 => ?_)
    · have c14434 := i_le (a := x1.toInt) (b := x_tapeLength.toInt) c14434 rfl rfl
      refine lv_aload_n hx hb dX6_end_14 rfl (lv_at hl 0 rfl) ?_
      refine lv_iload_n hx hb dX6_end_15 rfl (lv_at hl 1 rfl) ?_
      refine va_put (D := (dC, dI)) (ci := 6) (v := .int x1) (ty := .int) (C := RX6) (T := TX6) (N := 20) hx hb hts hi6 tyX6 tyX6_ok nmX6 hown hK hP hD hS 0 rfl rfl 1 (by decide) (hts _ (ow_m (k := 0) rfl)) (fun _ h9 => h9) rfl (by decide +kernel) rfl rfl (Nat.le_of_ble_eq_true rfl) dX6_end_16 (fun H locs hP hD hS => ?_)
      have hP : va_P (dC, dI) vwCl [(hX, .inr (6, [.ref (xd 0), .int x1, .ref hp, .ref hd, .ref hR0, .ref hu, .ref (xd 6), .int x_at, .int x_top, .ref hs, .ref hT, .ref (xd 11), .ref (xd 12), .ref (xd 13), .int x_lyingCount, .ref (xd 15), .int x_fewest, .ref hg, .ref (xd 18), .int x_time]))] H := hP
      have hD : va_D A [(hX, .inr (6, [.ref (xd 0), .int x1, .ref hp, .ref hd, .ref hR0, .ref hu, .ref (xd 6), .int x_at, .int x_top, .ref hs, .ref hT, .ref (xd 11), .ref (xd 12), .ref (xd 13), .int x_lyingCount, .ref (xd 15), .int x_fewest, .ref hg, .ref (xd 18), .int x_time]))] := hD
      refine lv_iload_n hx hb dX6_end_19 rfl (lv_at hl 1 rfl) ?_
      have w14435 : -1 ≤ x1.toInt := by first | omega | assumption | rfl
      have w14436 : x1.toInt ≤ 1600 := by first | omega | assumption | rfl
      have w14437 : 0 ≤ x1.toInt := by first | omega | assumption | rfl
      have w14438 : x1.toInt ≤ 1600 := by first | omega | assumption | rfl
      exact W.iret (v := x1) hx hb hr (fun t ht hW => ⟨⟨x1, ((fun _ => fun _ => 0), (fun _ => x1), (fun _ => 0), (fun _ => fun _ => 0)), rfl, ⟨w14435, w14436, w14437, w14438⟩, cE.of ht hP hD [0] (by decide) rfl⟩, hS.F ht⟩) hS.2.2 dX6_end_20
    · have c14434 := i_nle (a := x1.toInt) (b := x_tapeLength.toInt) c14434 rfl rfl
      refine lv_iconst (v := (-1)) hx hb dX6_end_12 (by decide) ?_
      have w14439 : -1 ≤ (-1 : Int32).toInt := by first | omega | assumption | rfl
      have w14440 : (-1 : Int32).toInt ≤ 1600 := by first | omega | assumption | rfl
      have w14441 : 0 ≤ x_tapeLength.toInt := by first | omega | assumption | rfl
      have w14442 : x_tapeLength.toInt ≤ 1600 := by first | omega | assumption | rfl
      exact W.iret (v := (-1)) hx hb hr (fun t ht hW => ⟨⟨(-1), ((fun _ => fun _ => 0), (fun _ => x_tapeLength), (fun _ => 0), (fun _ => fun _ => 0)), rfl, ⟨w14439, w14440, w14441, w14442⟩, cE.of ht hP hD [0] (by decide) rfl⟩, hS.F ht⟩) hS.2.2 dX6_end_13
def wo_k_X_scenarios : List Cond := [.fieldLink RX6 16 "ReplicaChain" "plan" "LReplicaChain$Plan;", .fieldLink RX6 94 "ReplicaChain$Plan" "memberCount" "I"]
def wq_k_X_scenarios : List Cond := .code yX6_scenarios cX6_scenarios 1 (some .int) :: (wo_k_X_scenarios ++ (wsX10 ++ (wsX60 ++ [])))
theorem gd_k_X_scenarios : Gd wq_k_X_scenarios := gd_c (gd_a (gd_o (by decide +kernel)) (gd_a gd_u (gd_a gd_u gd_0)))
abbrev wc_k_X_scenarios (cyB cyI cyJ cyZ cyO : ClassId) (hX : Nat) (xd : Nat → Nat) (x_tapeLength : Int32) (x_at : Int32) (x_top : Int32) (x_lyingCount : Int32) (x_fewest : Int32) (x_time : Int32) (hp : Nat) (pd : Nat → Nat) (p_mC : Int32) (p_nC : Int32) (p_kC : Int32) (p_units : Int32) (p_copy : Int32) (p_loss : Int32) (p_draw : Int32) (hd : Nat) (hR0 : Nat) (hu : Nat) (hs : Nat) (hT : Nat) (hg : Nat) (hf : Nat) : va_W := [(hX, .inr (6, [.ref (xd 0), .int x_tapeLength, .ref hp, .ref hd, .ref hR0, .ref hu, .ref (xd 6), .int x_at, .int x_top, .ref hs, .ref hT, .ref (xd 11), .ref (xd 12), .ref (xd 13), .int x_lyingCount, .ref (xd 15), .int x_fewest, .ref hg, .ref (xd 18), .int x_time])), (hp, .inr (1, [.ref (pd 0), .ref (pd 1), .ref (pd 2), .ref hf, .int p_mC, .int p_nC, .int p_kC, .int p_units, .int p_copy, .int p_loss, .int p_draw]))]
set_option maxHeartbeats 4000000 in
set_option maxRecDepth 100000 in
theorem k_X_scenarios (l : Launch) (dC : Nat → ClassId) (dI : Nat → Nat → Nat) (cyB cyI cyJ cyZ cyO : ClassId) (hX : Nat) (xd : Nat → Nat) (x_tapeLength : Int32) (x_at : Int32) (x_top : Int32) (x_lyingCount : Int32) (x_fewest : Int32) (x_time : Int32) (hp : Nat) (pd : Nat → Nat) (p_mC : Int32) (p_nC : Int32) (p_kC : Int32) (p_units : Int32) (p_copy : Int32) (p_loss : Int32) (p_draw : Int32) (hd : Nat) (hR0 : Nat) (hu : Nat) (hs : Nat) (hT : Nat) (hg : Nat) (hf : Nat) (sz : Nat) (l_x_tapeLength : 0 ≤ x_tapeLength.toInt) (u_x_tapeLength : x_tapeLength.toInt ≤ 1600) (l_x_at : 0 ≤ x_at.toInt) (u_x_at : x_at.toInt ≤ 40) (l_x_top : 0 ≤ x_top.toInt) (u_x_top : x_top.toInt ≤ 40) (l_x_lyingCount : 0 ≤ x_lyingCount.toInt) (u_x_lyingCount : x_lyingCount.toInt ≤ 6) (l_x_time : 0 ≤ x_time.toInt) (u_x_time : x_time.toInt ≤ 100000) (l_p_mC : 0 ≤ p_mC.toInt) (u_p_mC : p_mC.toInt ≤ 6) (l_p_nC : 0 ≤ p_nC.toInt) (u_p_nC : p_nC.toInt ≤ 8) (l_p_kC : 0 ≤ p_kC.toInt) (u_p_kC : p_kC.toInt ≤ 4) (l_p_draw : 0 ≤ p_draw.toInt) (u_p_draw : p_draw.toInt ≤ 999) : Met l yX6_scenarios wq_k_X_scenarios ({ frames := 0, cells := 0, slots := 0, locals := 0 }) (va_Pc [.ref hX] (cB (dC, dI) (kT cyB cyI cyJ cyZ cyO) (wc_k_X_scenarios cyB cyI cyJ cyZ cyO hX xd x_tapeLength x_at x_top x_lyingCount x_fewest x_time hp pd p_mC p_nC p_kC p_units p_copy p_loss p_draw hd hR0 hu hs hT hg hf) sz)) (va_Qi (fun (r : Int32) (u : Unit) => (0 ≤ r.toInt) ∧ (r.toInt ≤ 7)) (fun (u : Unit) t => cE (dC, dI) (va_A (wc_k_X_scenarios cyB cyI cyJ cyZ cyO hX xd x_tapeLength x_at x_top x_lyingCount x_fewest x_time hp pd p_mC p_nC p_kC p_units p_copy p_loss p_draw hd hR0 hu hs hT hg hf) sz) ([(hX, .inr (6, [.ref (xd 0), .int x_tapeLength, .ref hp, .ref hd, .ref hR0, .ref hu, .ref (xd 6), .int x_at, .int x_top, .ref hs, .ref hT, .ref (xd 11), .ref (xd 12), .ref (xd 13), .int x_lyingCount, .ref (xd 15), .int x_fewest, .ref hg, .ref (xd 18), .int x_time])), (hp, .inr (1, [.ref (pd 0), .ref (pd 1), .ref (pd 2), .ref hf, .int p_mC, .int p_nC, .int p_kC, .int p_units, .int p_copy, .int p_loss, .int p_draw]))]) t.heap) (va_A (wc_k_X_scenarios cyB cyI cyJ cyZ cyO hX xd x_tapeLength x_at x_top x_lyingCount x_fewest x_time hp pd p_mC p_nC p_kC p_units p_copy p_loss p_draw hd hR0 hu hs hT hg hf) sz)) 0 0 (va_A (wc_k_X_scenarios cyB cyI cyJ cyZ cyO hX xd x_tapeLength x_at x_top x_lyingCount x_fewest x_time hp pd p_mC p_nC p_kC p_units p_copy p_loss p_draw hd hR0 hu hs hT hg hf) sz) := by
  refine Met.ofW (cc := cX6_scenarios) (maxL := 1) (ret := (some .int)) (by decide) rfl ?_
  intro p e s m args below meth c s₁ B hml hv
  obtain ⟨rfl, hsz, hP, hKN, hD0⟩ := hv
  have hx := B.exec
  have hb := B.bytes
  have hr := B.returns
  have hts := atoms_spec (ws := wq_k_X_scenarios) B.pre
  have hown : s.vm.findClass RX6 = some m.cls := findClass_of_methodNamed B.named
  have hlocks := B.notSynchronized
  have hK := hKN.1
  have hfix : CallFix p m c cX6_scenarios 1 s [.ref hX].toArray wq_k_X_scenarios RX6 := ⟨hx, hb, hml, hown, hts⟩
  have hi1 : ∀ w ∈ wsX10, w ∈ wq_k_X_scenarios := (sb_c sb_l)
  have hi6 : ∀ w ∈ wsX60, w ∈ wq_k_X_scenarios := (sb_c (sb_r sb_l))
  subst hsz
  have hD := hD0.self (sz := s.heap.size)
  generalize hAe : va_A (wc_k_X_scenarios cyB cyI cyJ cyZ cyO hX xd x_tapeLength x_at x_top x_lyingCount x_fewest x_time hp pd p_mC p_nC p_kC p_units p_copy p_loss p_draw hd hR0 hu hs hT hg hf) s.heap.size = A at hD ⊢
  have hA : ∀ q : Nat, s.heap.size ≤ q → A q := fun q h => by rw [← hAe]; exact Or.inr h
  have hS : va_S A s.heap s.heap [] := va_S.rf
  have hl := lv_entry ([.ref hX]) (n := 1) (Nat.le_of_ble_eq_true rfl)
  rw [lg_entry_eq]
  generalize (lg_sl ([.ref hX]) ++ List.replicate (1 - (lg_sl ([.ref hX])).length) Slot.unset).toArray = ls at hl ⊢
  have hl : lv_has ls 1 [(0, .ref hX)] := hl
  refine lv_aload_n hx hb dX6_scenarios_0 rfl (lv_at hl 0 rfl) ?_
  refine va_get (D := (dC, dI)) (ci := 6) (v := .ref hp) (C := RX6) (T := TX6) (N := 20) hx hb hts hi6 hown hK hP 0 rfl rfl 2 (by decide) (hts _ (ow_m (k := 0) rfl)) (fun _ h9 => h9) rfl dX6_scenarios_1 ?_
  refine va_get (D := (dC, dI)) (ci := 1) (v := .int p_mC) (C := RX1) (T := TX1) (N := 11) hx hb hts hi1 hown hK hP 1 rfl rfl 4 (by decide) (hts _ (ow_m (k := 1) rfl)) (fun _ h9 => h9) rfl dX6_scenarios_4 ?_
  refine lv_iconst (v := 2) hx hb dX6_scenarios_7 (by decide) ?_
  refine lv_icmp_ge (tgt := 21) hx hb dX6_scenarios_8 (by decide) (fun c14447 => ?_) (fun c14447 => ?_)
  · have c14447 := i_le (a := 2) (b := p_mC.toInt) c14447 (by decide) rfl
    refine lv_aload_n hx hb dX6_scenarios_21 rfl (lv_at hl 0 rfl) ?_
    refine va_get (D := (dC, dI)) (ci := 6) (v := .ref hp) (C := RX6) (T := TX6) (N := 20) hx hb hts hi6 hown hK hP 0 rfl rfl 2 (by decide) (hts _ (ow_m (k := 0) rfl)) (fun _ h9 => h9) rfl dX6_scenarios_22 ?_
    refine va_get (D := (dC, dI)) (ci := 1) (v := .int p_mC) (C := RX1) (T := TX1) (N := 11) hx hb hts hi1 hown hK hP 1 rfl rfl 4 (by decide) (hts _ (ow_m (k := 1) rfl)) (fun _ h9 => h9) rfl dX6_scenarios_25 ?_
    refine lv_iconst (v := 1) hx hb dX6_scenarios_28 (by decide) ?_
    refine lv_iadd hx hb dX6_scenarios_29 ?_
    refine lv_topi (fun z14448 ez14448 => ?_)
    have tz14448 := ti_add (a := p_mC.toInt) (b := 1) ez14448 rfl (by decide) (by omega) (by omega)
    have w14449 : 0 ≤ z14448.toInt := by first | omega | assumption | rfl
    have w14450 : z14448.toInt ≤ 7 := by first | omega | assumption | rfl
    exact W.iret (v := z14448) hx hb hr (fun t ht hW => ⟨⟨z14448, (), rfl, ⟨w14449, w14450⟩, cE.of ht hP hD [0, 1] (by decide) rfl⟩, hS.F ht⟩) hS.2.2 dX6_scenarios_30
  · have c14447 := i_nle (a := 2) (b := p_mC.toInt) c14447 (by decide) rfl
    refine lv_aload_n hx hb dX6_scenarios_11 rfl (lv_at hl 0 rfl) ?_
    refine va_get (D := (dC, dI)) (ci := 6) (v := .ref hp) (C := RX6) (T := TX6) (N := 20) hx hb hts hi6 hown hK hP 0 rfl rfl 2 (by decide) (hts _ (ow_m (k := 0) rfl)) (fun _ h9 => h9) rfl dX6_scenarios_12 ?_
    refine va_get (D := (dC, dI)) (ci := 1) (v := .int p_mC) (C := RX1) (T := TX1) (N := 11) hx hb hts hi1 hown hK hP 1 rfl rfl 4 (by decide) (hts _ (ow_m (k := 1) rfl)) (fun _ h9 => h9) rfl dX6_scenarios_15 ?_
    refine lv_goto (tgt := 30) hx hb dX6_scenarios_18 (by decide) ?_
    have w14451 : 0 ≤ p_mC.toInt := by first | omega | assumption | rfl
    have w14452 : p_mC.toInt ≤ 7 := by first | omega | assumption | rfl
    exact W.iret (v := p_mC) hx hb hr (fun t ht hW => ⟨⟨p_mC, (), rfl, ⟨w14451, w14452⟩, cE.of ht hP hD [0, 1] (by decide) rfl⟩, hS.F ht⟩) hS.2.2 dX6_scenarios_30
def wo_k_X_isNode : List Cond := [.fieldLink RX6 16 "ReplicaChain" "plan" "LReplicaChain$Plan;", .fieldLink RX6 179 "ReplicaChain$Plan" "nodeCount" "I"]
def wq_k_X_isNode : List Cond := .code yX6_isNode cX6_isNode 2 (some .boolean) :: (wo_k_X_isNode ++ (wsX10 ++ (wsX60 ++ [])))
theorem gd_k_X_isNode : Gd wq_k_X_isNode := gd_c (gd_a (gd_o (by decide +kernel)) (gd_a gd_u (gd_a gd_u gd_0)))
abbrev wc_k_X_isNode (cyB cyI cyJ cyZ cyO : ClassId) (hX : Nat) (xd : Nat → Nat) (x_tapeLength : Int32) (x_at : Int32) (x_top : Int32) (x_lyingCount : Int32) (x_fewest : Int32) (x_time : Int32) (hp : Nat) (pd : Nat → Nat) (p_mC : Int32) (p_nC : Int32) (p_kC : Int32) (p_units : Int32) (p_copy : Int32) (p_loss : Int32) (p_draw : Int32) (x1 : Int32) (hd : Nat) (hR0 : Nat) (hu : Nat) (hs : Nat) (hT : Nat) (hg : Nat) (hf : Nat) : va_W := [(hX, .inr (6, [.ref (xd 0), .int x_tapeLength, .ref hp, .ref hd, .ref hR0, .ref hu, .ref (xd 6), .int x_at, .int x_top, .ref hs, .ref hT, .ref (xd 11), .ref (xd 12), .ref (xd 13), .int x_lyingCount, .ref (xd 15), .int x_fewest, .ref hg, .ref (xd 18), .int x_time])), (hp, .inr (1, [.ref (pd 0), .ref (pd 1), .ref (pd 2), .ref hf, .int p_mC, .int p_nC, .int p_kC, .int p_units, .int p_copy, .int p_loss, .int p_draw]))]
set_option maxHeartbeats 4000000 in
set_option maxRecDepth 100000 in
theorem k_X_isNode (l : Launch) (dC : Nat → ClassId) (dI : Nat → Nat → Nat) (cyB cyI cyJ cyZ cyO : ClassId) (hX : Nat) (xd : Nat → Nat) (x_tapeLength : Int32) (x_at : Int32) (x_top : Int32) (x_lyingCount : Int32) (x_fewest : Int32) (x_time : Int32) (hp : Nat) (pd : Nat → Nat) (p_mC : Int32) (p_nC : Int32) (p_kC : Int32) (p_units : Int32) (p_copy : Int32) (p_loss : Int32) (p_draw : Int32) (x1 : Int32) (hd : Nat) (hR0 : Nat) (hu : Nat) (hs : Nat) (hT : Nat) (hg : Nat) (hf : Nat) (sz : Nat) (l_x_tapeLength : 0 ≤ x_tapeLength.toInt) (u_x_tapeLength : x_tapeLength.toInt ≤ 1600) (l_x_at : 0 ≤ x_at.toInt) (u_x_at : x_at.toInt ≤ 40) (l_x_top : 0 ≤ x_top.toInt) (u_x_top : x_top.toInt ≤ 40) (l_x_lyingCount : 0 ≤ x_lyingCount.toInt) (u_x_lyingCount : x_lyingCount.toInt ≤ 6) (l_x_time : 0 ≤ x_time.toInt) (u_x_time : x_time.toInt ≤ 100000) (l_p_mC : 0 ≤ p_mC.toInt) (u_p_mC : p_mC.toInt ≤ 6) (l_p_nC : 0 ≤ p_nC.toInt) (u_p_nC : p_nC.toInt ≤ 8) (l_p_kC : 0 ≤ p_kC.toInt) (u_p_kC : p_kC.toInt ≤ 4) (l_p_draw : 0 ≤ p_draw.toInt) (u_p_draw : p_draw.toInt ≤ 999) : Met l yX6_isNode wq_k_X_isNode ({ frames := 0, cells := 0, slots := 0, locals := 0 }) (va_Pc [.ref hX, .int x1] (cB (dC, dI) (kT cyB cyI cyJ cyZ cyO) (wc_k_X_isNode cyB cyI cyJ cyZ cyO hX xd x_tapeLength x_at x_top x_lyingCount x_fewest x_time hp pd p_mC p_nC p_kC p_units p_copy p_loss p_draw x1 hd hR0 hu hs hT hg hf) sz)) (va_Qi (fun (r : Int32) (u : Unit) => (((r = 1 ∧ (0 ≤ x1.toInt) ∧ (x1.toInt < p_nC.toInt) ∧ (x1.toInt ≤ 7)) ∨ (r = 0)))) (fun (u : Unit) t => cE (dC, dI) (va_A (wc_k_X_isNode cyB cyI cyJ cyZ cyO hX xd x_tapeLength x_at x_top x_lyingCount x_fewest x_time hp pd p_mC p_nC p_kC p_units p_copy p_loss p_draw x1 hd hR0 hu hs hT hg hf) sz) ([(hX, .inr (6, [.ref (xd 0), .int x_tapeLength, .ref hp, .ref hd, .ref hR0, .ref hu, .ref (xd 6), .int x_at, .int x_top, .ref hs, .ref hT, .ref (xd 11), .ref (xd 12), .ref (xd 13), .int x_lyingCount, .ref (xd 15), .int x_fewest, .ref hg, .ref (xd 18), .int x_time])), (hp, .inr (1, [.ref (pd 0), .ref (pd 1), .ref (pd 2), .ref hf, .int p_mC, .int p_nC, .int p_kC, .int p_units, .int p_copy, .int p_loss, .int p_draw]))]) t.heap) (va_A (wc_k_X_isNode cyB cyI cyJ cyZ cyO hX xd x_tapeLength x_at x_top x_lyingCount x_fewest x_time hp pd p_mC p_nC p_kC p_units p_copy p_loss p_draw x1 hd hR0 hu hs hT hg hf) sz)) 0 0 (va_A (wc_k_X_isNode cyB cyI cyJ cyZ cyO hX xd x_tapeLength x_at x_top x_lyingCount x_fewest x_time hp pd p_mC p_nC p_kC p_units p_copy p_loss p_draw x1 hd hR0 hu hs hT hg hf) sz) := by
  refine Met.ofW (cc := cX6_isNode) (maxL := 2) (ret := (some .boolean)) (by decide) rfl ?_
  intro p e s m args below meth c s₁ B hml hv
  obtain ⟨rfl, hsz, hP, hKN, hD0⟩ := hv
  have hx := B.exec
  have hb := B.bytes
  have hr := B.returns
  have hts := atoms_spec (ws := wq_k_X_isNode) B.pre
  have hown : s.vm.findClass RX6 = some m.cls := findClass_of_methodNamed B.named
  have hlocks := B.notSynchronized
  have hK := hKN.1
  have hfix : CallFix p m c cX6_isNode 2 s [.ref hX, .int x1].toArray wq_k_X_isNode RX6 := ⟨hx, hb, hml, hown, hts⟩
  have hi1 : ∀ w ∈ wsX10, w ∈ wq_k_X_isNode := (sb_c sb_l)
  have hi6 : ∀ w ∈ wsX60, w ∈ wq_k_X_isNode := (sb_c (sb_r sb_l))
  subst hsz
  have hD := hD0.self (sz := s.heap.size)
  generalize hAe : va_A (wc_k_X_isNode cyB cyI cyJ cyZ cyO hX xd x_tapeLength x_at x_top x_lyingCount x_fewest x_time hp pd p_mC p_nC p_kC p_units p_copy p_loss p_draw x1 hd hR0 hu hs hT hg hf) s.heap.size = A at hD ⊢
  have hA : ∀ q : Nat, s.heap.size ≤ q → A q := fun q h => by rw [← hAe]; exact Or.inr h
  have hS : va_S A s.heap s.heap [] := va_S.rf
  have hl := lv_entry ([.ref hX, .int x1]) (n := 2) (Nat.le_of_ble_eq_true rfl)
  rw [lg_entry_eq]
  generalize (lg_sl ([.ref hX, .int x1]) ++ List.replicate (2 - (lg_sl ([.ref hX, .int x1])).length) Slot.unset).toArray = ls at hl ⊢
  have hl : lv_has ls 2 [(0, .ref hX), (1, .int x1)] := hl
  refine lv_iload_n hx hb dX6_isNode_0 rfl (lv_at hl 1 rfl) ?_
  refine lv_if_lt (tgt := 19) hx hb dX6_isNode_1 (by decide) (fun c14457 => ?_) (fun c14457 => ?_)
  · have c14457 := i_lt (a := x1.toInt) (b := 0) c14457 rfl (by decide)
    refine lv_iconst (v := 0) hx hb dX6_isNode_19 (by decide) ?_
    exact W.zret (v := 0) hx hb hr (by decide) (fun t ht hW => ⟨⟨0, (), rfl, (Or.inr rfl), cE.of ht hP hD [0, 1] (by decide) rfl⟩, hS.F ht⟩) hS.2.2 dX6_isNode_20
  · have c14457 := i_nlt (a := x1.toInt) (b := 0) c14457 rfl (by decide)
    refine lv_iload_n hx hb dX6_isNode_4 rfl (lv_at hl 1 rfl) ?_
    refine lv_aload_n hx hb dX6_isNode_5 rfl (lv_at hl 0 rfl) ?_
    refine va_get (D := (dC, dI)) (ci := 6) (v := .ref hp) (C := RX6) (T := TX6) (N := 20) hx hb hts hi6 hown hK hP 0 rfl rfl 2 (by decide) (hts _ (ow_m (k := 0) rfl)) (fun _ h9 => h9) rfl dX6_isNode_6 ?_
    refine va_get (D := (dC, dI)) (ci := 1) (v := .int p_nC) (C := RX1) (T := TX1) (N := 11) hx hb hts hi1 hown hK hP 1 rfl rfl 5 (by decide) (hts _ (ow_m (k := 1) rfl)) (fun _ h9 => h9) rfl dX6_isNode_9 ?_
    refine lv_icmp_ge (tgt := 19) hx hb dX6_isNode_12 (by decide) (fun c14458 => ?_) (fun c14458 => ?_)
    · have c14458 := i_le (a := p_nC.toInt) (b := x1.toInt) c14458 rfl rfl
      refine lv_iconst (v := 0) hx hb dX6_isNode_19 (by decide) ?_
      exact W.zret (v := 0) hx hb hr (by decide) (fun t ht hW => ⟨⟨0, (), rfl, (Or.inr rfl), cE.of ht hP hD [0, 1] (by decide) rfl⟩, hS.F ht⟩) hS.2.2 dX6_isNode_20
    · have c14458 := i_nle (a := p_nC.toInt) (b := x1.toInt) c14458 rfl rfl
      refine lv_iconst (v := 1) hx hb dX6_isNode_15 (by decide) ?_
      refine lv_goto (tgt := 20) hx hb dX6_isNode_16 (by decide) ?_
      have w14459 : 0 ≤ x1.toInt := by first | omega | assumption | rfl
      have w14460 : x1.toInt < p_nC.toInt := by first | omega | assumption | rfl
      have w14461 : x1.toInt ≤ 7 := by first | omega | assumption | rfl
      exact W.zret (v := 1) hx hb hr (by decide) (fun t ht hW => ⟨⟨1, (), rfl, (Or.inl ⟨rfl, w14459, w14460, w14461⟩), cE.of ht hP hD [0, 1] (by decide) rfl⟩, hS.F ht⟩) hS.2.2 dX6_isNode_20
def wo_k_X_isKey : List Cond := [.fieldLink RX6 16 "ReplicaChain" "plan" "LReplicaChain$Plan;", .fieldLink RX6 182 "ReplicaChain$Plan" "keyCount" "I"]
def wq_k_X_isKey : List Cond := .code yX6_isKey cX6_isKey 2 (some .boolean) :: (wo_k_X_isKey ++ (wsX10 ++ (wsX60 ++ [])))
theorem gd_k_X_isKey : Gd wq_k_X_isKey := gd_c (gd_a (gd_o (by decide +kernel)) (gd_a gd_u (gd_a gd_u gd_0)))
abbrev wc_k_X_isKey (cyB cyI cyJ cyZ cyO : ClassId) (hX : Nat) (xd : Nat → Nat) (x_tapeLength : Int32) (x_at : Int32) (x_top : Int32) (x_lyingCount : Int32) (x_fewest : Int32) (x_time : Int32) (hp : Nat) (pd : Nat → Nat) (p_mC : Int32) (p_nC : Int32) (p_kC : Int32) (p_units : Int32) (p_copy : Int32) (p_loss : Int32) (p_draw : Int32) (x1 : Int32) (hd : Nat) (hR0 : Nat) (hu : Nat) (hs : Nat) (hT : Nat) (hg : Nat) (hf : Nat) : va_W := [(hX, .inr (6, [.ref (xd 0), .int x_tapeLength, .ref hp, .ref hd, .ref hR0, .ref hu, .ref (xd 6), .int x_at, .int x_top, .ref hs, .ref hT, .ref (xd 11), .ref (xd 12), .ref (xd 13), .int x_lyingCount, .ref (xd 15), .int x_fewest, .ref hg, .ref (xd 18), .int x_time])), (hp, .inr (1, [.ref (pd 0), .ref (pd 1), .ref (pd 2), .ref hf, .int p_mC, .int p_nC, .int p_kC, .int p_units, .int p_copy, .int p_loss, .int p_draw]))]
set_option maxHeartbeats 4000000 in
set_option maxRecDepth 100000 in
theorem k_X_isKey (l : Launch) (dC : Nat → ClassId) (dI : Nat → Nat → Nat) (cyB cyI cyJ cyZ cyO : ClassId) (hX : Nat) (xd : Nat → Nat) (x_tapeLength : Int32) (x_at : Int32) (x_top : Int32) (x_lyingCount : Int32) (x_fewest : Int32) (x_time : Int32) (hp : Nat) (pd : Nat → Nat) (p_mC : Int32) (p_nC : Int32) (p_kC : Int32) (p_units : Int32) (p_copy : Int32) (p_loss : Int32) (p_draw : Int32) (x1 : Int32) (hd : Nat) (hR0 : Nat) (hu : Nat) (hs : Nat) (hT : Nat) (hg : Nat) (hf : Nat) (sz : Nat) (l_x_tapeLength : 0 ≤ x_tapeLength.toInt) (u_x_tapeLength : x_tapeLength.toInt ≤ 1600) (l_x_at : 0 ≤ x_at.toInt) (u_x_at : x_at.toInt ≤ 40) (l_x_top : 0 ≤ x_top.toInt) (u_x_top : x_top.toInt ≤ 40) (l_x_lyingCount : 0 ≤ x_lyingCount.toInt) (u_x_lyingCount : x_lyingCount.toInt ≤ 6) (l_x_time : 0 ≤ x_time.toInt) (u_x_time : x_time.toInt ≤ 100000) (l_p_mC : 0 ≤ p_mC.toInt) (u_p_mC : p_mC.toInt ≤ 6) (l_p_nC : 0 ≤ p_nC.toInt) (u_p_nC : p_nC.toInt ≤ 8) (l_p_kC : 0 ≤ p_kC.toInt) (u_p_kC : p_kC.toInt ≤ 4) (l_p_draw : 0 ≤ p_draw.toInt) (u_p_draw : p_draw.toInt ≤ 999) : Met l yX6_isKey wq_k_X_isKey ({ frames := 0, cells := 0, slots := 0, locals := 0 }) (va_Pc [.ref hX, .int x1] (cB (dC, dI) (kT cyB cyI cyJ cyZ cyO) (wc_k_X_isKey cyB cyI cyJ cyZ cyO hX xd x_tapeLength x_at x_top x_lyingCount x_fewest x_time hp pd p_mC p_nC p_kC p_units p_copy p_loss p_draw x1 hd hR0 hu hs hT hg hf) sz)) (va_Qi (fun (r : Int32) (u : Unit) => (((r = 1 ∧ (0 ≤ x1.toInt) ∧ (x1.toInt < p_kC.toInt) ∧ (x1.toInt ≤ 3)) ∨ (r = 0)))) (fun (u : Unit) t => cE (dC, dI) (va_A (wc_k_X_isKey cyB cyI cyJ cyZ cyO hX xd x_tapeLength x_at x_top x_lyingCount x_fewest x_time hp pd p_mC p_nC p_kC p_units p_copy p_loss p_draw x1 hd hR0 hu hs hT hg hf) sz) ([(hX, .inr (6, [.ref (xd 0), .int x_tapeLength, .ref hp, .ref hd, .ref hR0, .ref hu, .ref (xd 6), .int x_at, .int x_top, .ref hs, .ref hT, .ref (xd 11), .ref (xd 12), .ref (xd 13), .int x_lyingCount, .ref (xd 15), .int x_fewest, .ref hg, .ref (xd 18), .int x_time])), (hp, .inr (1, [.ref (pd 0), .ref (pd 1), .ref (pd 2), .ref hf, .int p_mC, .int p_nC, .int p_kC, .int p_units, .int p_copy, .int p_loss, .int p_draw]))]) t.heap) (va_A (wc_k_X_isKey cyB cyI cyJ cyZ cyO hX xd x_tapeLength x_at x_top x_lyingCount x_fewest x_time hp pd p_mC p_nC p_kC p_units p_copy p_loss p_draw x1 hd hR0 hu hs hT hg hf) sz)) 0 0 (va_A (wc_k_X_isKey cyB cyI cyJ cyZ cyO hX xd x_tapeLength x_at x_top x_lyingCount x_fewest x_time hp pd p_mC p_nC p_kC p_units p_copy p_loss p_draw x1 hd hR0 hu hs hT hg hf) sz) := by
  refine Met.ofW (cc := cX6_isKey) (maxL := 2) (ret := (some .boolean)) (by decide) rfl ?_
  intro p e s m args below meth c s₁ B hml hv
  obtain ⟨rfl, hsz, hP, hKN, hD0⟩ := hv
  have hx := B.exec
  have hb := B.bytes
  have hr := B.returns
  have hts := atoms_spec (ws := wq_k_X_isKey) B.pre
  have hown : s.vm.findClass RX6 = some m.cls := findClass_of_methodNamed B.named
  have hlocks := B.notSynchronized
  have hK := hKN.1
  have hfix : CallFix p m c cX6_isKey 2 s [.ref hX, .int x1].toArray wq_k_X_isKey RX6 := ⟨hx, hb, hml, hown, hts⟩
  have hi1 : ∀ w ∈ wsX10, w ∈ wq_k_X_isKey := (sb_c sb_l)
  have hi6 : ∀ w ∈ wsX60, w ∈ wq_k_X_isKey := (sb_c (sb_r sb_l))
  subst hsz
  have hD := hD0.self (sz := s.heap.size)
  generalize hAe : va_A (wc_k_X_isKey cyB cyI cyJ cyZ cyO hX xd x_tapeLength x_at x_top x_lyingCount x_fewest x_time hp pd p_mC p_nC p_kC p_units p_copy p_loss p_draw x1 hd hR0 hu hs hT hg hf) s.heap.size = A at hD ⊢
  have hA : ∀ q : Nat, s.heap.size ≤ q → A q := fun q h => by rw [← hAe]; exact Or.inr h
  have hS : va_S A s.heap s.heap [] := va_S.rf
  have hl := lv_entry ([.ref hX, .int x1]) (n := 2) (Nat.le_of_ble_eq_true rfl)
  rw [lg_entry_eq]
  generalize (lg_sl ([.ref hX, .int x1]) ++ List.replicate (2 - (lg_sl ([.ref hX, .int x1])).length) Slot.unset).toArray = ls at hl ⊢
  have hl : lv_has ls 2 [(0, .ref hX), (1, .int x1)] := hl
  refine lv_iload_n hx hb dX6_isKey_0 rfl (lv_at hl 1 rfl) ?_
  refine lv_if_lt (tgt := 19) hx hb dX6_isKey_1 (by decide) (fun c14466 => ?_) (fun c14466 => ?_)
  · have c14466 := i_lt (a := x1.toInt) (b := 0) c14466 rfl (by decide)
    refine lv_iconst (v := 0) hx hb dX6_isKey_19 (by decide) ?_
    exact W.zret (v := 0) hx hb hr (by decide) (fun t ht hW => ⟨⟨0, (), rfl, (Or.inr rfl), cE.of ht hP hD [0, 1] (by decide) rfl⟩, hS.F ht⟩) hS.2.2 dX6_isKey_20
  · have c14466 := i_nlt (a := x1.toInt) (b := 0) c14466 rfl (by decide)
    refine lv_iload_n hx hb dX6_isKey_4 rfl (lv_at hl 1 rfl) ?_
    refine lv_aload_n hx hb dX6_isKey_5 rfl (lv_at hl 0 rfl) ?_
    refine va_get (D := (dC, dI)) (ci := 6) (v := .ref hp) (C := RX6) (T := TX6) (N := 20) hx hb hts hi6 hown hK hP 0 rfl rfl 2 (by decide) (hts _ (ow_m (k := 0) rfl)) (fun _ h9 => h9) rfl dX6_isKey_6 ?_
    refine va_get (D := (dC, dI)) (ci := 1) (v := .int p_kC) (C := RX1) (T := TX1) (N := 11) hx hb hts hi1 hown hK hP 1 rfl rfl 6 (by decide) (hts _ (ow_m (k := 1) rfl)) (fun _ h9 => h9) rfl dX6_isKey_9 ?_
    refine lv_icmp_ge (tgt := 19) hx hb dX6_isKey_12 (by decide) (fun c14467 => ?_) (fun c14467 => ?_)
    · have c14467 := i_le (a := p_kC.toInt) (b := x1.toInt) c14467 rfl rfl
      refine lv_iconst (v := 0) hx hb dX6_isKey_19 (by decide) ?_
      exact W.zret (v := 0) hx hb hr (by decide) (fun t ht hW => ⟨⟨0, (), rfl, (Or.inr rfl), cE.of ht hP hD [0, 1] (by decide) rfl⟩, hS.F ht⟩) hS.2.2 dX6_isKey_20
    · have c14467 := i_nle (a := p_kC.toInt) (b := x1.toInt) c14467 rfl rfl
      refine lv_iconst (v := 1) hx hb dX6_isKey_15 (by decide) ?_
      refine lv_goto (tgt := 20) hx hb dX6_isKey_16 (by decide) ?_
      have w14468 : 0 ≤ x1.toInt := by first | omega | assumption | rfl
      have w14469 : x1.toInt < p_kC.toInt := by first | omega | assumption | rfl
      have w14470 : x1.toInt ≤ 3 := by first | omega | assumption | rfl
      exact W.zret (v := 1) hx hb hr (by decide) (fun t ht hW => ⟨⟨1, (), rfl, (Or.inl ⟨rfl, w14468, w14469, w14470⟩), cE.of ht hP hD [0, 1] (by decide) rfl⟩, hS.F ht⟩) hS.2.2 dX6_isKey_20
def wo_k_X_isMember : List Cond := [.methodLink RX6 163 yX6_isNode, .instanceMethod yX6_isNode, .selects RX6 yX6_isNode yX6_isNode, .initialized RX6, .fieldLink RX6 110 "ReplicaChain" "now" "LReplicaChain$State;", .methodLink RX6 167 yX5_placeOf, .instanceMethod yX5_placeOf, .selects RX5 yX5_placeOf yX5_placeOf, .initialized RX5]
def wq_k_X_isMember : List Cond := .code yX6_isMember cX6_isMember 2 (some .boolean) :: (wo_k_X_isMember ++ (wq_k_X_isNode ++ (wq_k_St_placeOf ++ (wsX60 ++ []))))
theorem gd_k_X_isMember : Gd wq_k_X_isMember := gd_c (gd_a (gd_o (by decide +kernel)) (gd_a gd_k_X_isNode (gd_a gd_k_St_placeOf (gd_a gd_u gd_0))))
abbrev wc_k_X_isMember (cyB cyI cyJ cyZ cyO : ClassId) (hX : Nat) (xd : Nat → Nat) (x_tapeLength : Int32) (x_at : Int32) (x_top : Int32) (x_lyingCount : Int32) (x_fewest : Int32) (x_time : Int32) (hp : Nat) (pd : Nat → Nat) (p_mC : Int32) (p_nC : Int32) (p_kC : Int32) (p_units : Int32) (p_copy : Int32) (p_loss : Int32) (p_draw : Int32) (hs : Nat) (sd : Nat → Nat) (s_row : Nat → Int32) (s_size : Int32) (s_copier : Int32) (s_copyLeft : Int32) (s_tick : Int32) (s_seed : Int32) (s_dropped : Int32) (x1 : Int32) (hd : Nat) (hR0 : Nat) (hu : Nat) (hT : Nat) (hg : Nat) (hf : Nat) : va_W := [(hX, .inr (6, [.ref (xd 0), .int x_tapeLength, .ref hp, .ref hd, .ref hR0, .ref hu, .ref (xd 6), .int x_at, .int x_top, .ref hs, .ref hT, .ref (xd 11), .ref (xd 12), .ref (xd 13), .int x_lyingCount, .ref (xd 15), .int x_fewest, .ref hg, .ref (xd 18), .int x_time])), (hp, .inr (1, [.ref (pd 0), .ref (pd 1), .ref (pd 2), .ref hf, .int p_mC, .int p_nC, .int p_kC, .int p_units, .int p_copy, .int p_loss, .int p_draw])), (hs, .inr (5, [.ref (sd 0), .ref (sd 1), .ref (sd 2), .ref (sd 3), .ref (sd 4), .ref (sd 5), .ref (sd 6), .int s_size, .int s_copier, .int s_copyLeft, .int s_tick, .int s_seed, .int s_dropped])), (sd 0, .inl (cyI, 6, .inl s_row))]
set_option maxHeartbeats 4000000 in
set_option maxRecDepth 100000 in
theorem k_X_isMember (l : Launch) (dC : Nat → ClassId) (dI : Nat → Nat → Nat) (cyB cyI cyJ cyZ cyO : ClassId) (hX : Nat) (xd : Nat → Nat) (x_tapeLength : Int32) (x_at : Int32) (x_top : Int32) (x_lyingCount : Int32) (x_fewest : Int32) (x_time : Int32) (hp : Nat) (pd : Nat → Nat) (p_mC : Int32) (p_nC : Int32) (p_kC : Int32) (p_units : Int32) (p_copy : Int32) (p_loss : Int32) (p_draw : Int32) (hs : Nat) (sd : Nat → Nat) (s_row : Nat → Int32) (s_size : Int32) (s_copier : Int32) (s_copyLeft : Int32) (s_tick : Int32) (s_seed : Int32) (s_dropped : Int32) (x1 : Int32) (hd : Nat) (hR0 : Nat) (hu : Nat) (hT : Nat) (hg : Nat) (hf : Nat) (sz : Nat) (l_x_tapeLength : 0 ≤ x_tapeLength.toInt) (u_x_tapeLength : x_tapeLength.toInt ≤ 1600) (l_x_at : 0 ≤ x_at.toInt) (u_x_at : x_at.toInt ≤ 40) (l_x_top : 0 ≤ x_top.toInt) (u_x_top : x_top.toInt ≤ 40) (l_x_lyingCount : 0 ≤ x_lyingCount.toInt) (u_x_lyingCount : x_lyingCount.toInt ≤ 6) (l_x_time : 0 ≤ x_time.toInt) (u_x_time : x_time.toInt ≤ 100000) (l_p_mC : 0 ≤ p_mC.toInt) (u_p_mC : p_mC.toInt ≤ 6) (l_p_nC : 0 ≤ p_nC.toInt) (u_p_nC : p_nC.toInt ≤ 8) (l_p_kC : 0 ≤ p_kC.toInt) (u_p_kC : p_kC.toInt ≤ 4) (l_p_draw : 0 ≤ p_draw.toInt) (u_p_draw : p_draw.toInt ≤ 999) (l_s_size : 0 ≤ s_size.toInt) (u_s_size : s_size.toInt ≤ 6) (l_s_copier : -1 ≤ s_copier.toInt) (u_s_copier : s_copier.toInt ≤ 7) (l_s_seed : 0 ≤ s_seed.toInt) (u_s_seed : s_seed.toInt ≤ 999) (i0_s_row : In2 s_row 0 6 (0) (7)) : Met l yX6_isMember wq_k_X_isMember ({ frames := 1, cells := 0, slots := 0, locals := 22 }) (va_Pc [.ref hX, .int x1] (cB (dC, dI) (kT cyB cyI cyJ cyZ cyO) (wc_k_X_isMember cyB cyI cyJ cyZ cyO hX xd x_tapeLength x_at x_top x_lyingCount x_fewest x_time hp pd p_mC p_nC p_kC p_units p_copy p_loss p_draw hs sd s_row s_size s_copier s_copyLeft s_tick s_seed s_dropped x1 hd hR0 hu hT hg hf) sz)) (va_Qi (fun (r : Int32) (u : Unit) => (((r = 1 ∧ (0 ≤ x1.toInt) ∧ (x1.toInt < p_nC.toInt) ∧ (x1.toInt ≤ 7) ∧ (1 ≤ s_size.toInt)) ∨ (r = 0)))) (fun (u : Unit) t => cE (dC, dI) (va_A (wc_k_X_isMember cyB cyI cyJ cyZ cyO hX xd x_tapeLength x_at x_top x_lyingCount x_fewest x_time hp pd p_mC p_nC p_kC p_units p_copy p_loss p_draw hs sd s_row s_size s_copier s_copyLeft s_tick s_seed s_dropped x1 hd hR0 hu hT hg hf) sz) ([(hX, .inr (6, [.ref (xd 0), .int x_tapeLength, .ref hp, .ref hd, .ref hR0, .ref hu, .ref (xd 6), .int x_at, .int x_top, .ref hs, .ref hT, .ref (xd 11), .ref (xd 12), .ref (xd 13), .int x_lyingCount, .ref (xd 15), .int x_fewest, .ref hg, .ref (xd 18), .int x_time])), (hp, .inr (1, [.ref (pd 0), .ref (pd 1), .ref (pd 2), .ref hf, .int p_mC, .int p_nC, .int p_kC, .int p_units, .int p_copy, .int p_loss, .int p_draw])), (hs, .inr (5, [.ref (sd 0), .ref (sd 1), .ref (sd 2), .ref (sd 3), .ref (sd 4), .ref (sd 5), .ref (sd 6), .int s_size, .int s_copier, .int s_copyLeft, .int s_tick, .int s_seed, .int s_dropped])), (sd 0, .inl (cyI, 6, .inl s_row))]) t.heap) (va_A (wc_k_X_isMember cyB cyI cyJ cyZ cyO hX xd x_tapeLength x_at x_top x_lyingCount x_fewest x_time hp pd p_mC p_nC p_kC p_units p_copy p_loss p_draw hs sd s_row s_size s_copier s_copyLeft s_tick s_seed s_dropped x1 hd hR0 hu hT hg hf) sz)) 0 0 (va_A (wc_k_X_isMember cyB cyI cyJ cyZ cyO hX xd x_tapeLength x_at x_top x_lyingCount x_fewest x_time hp pd p_mC p_nC p_kC p_units p_copy p_loss p_draw hs sd s_row s_size s_copier s_copyLeft s_tick s_seed s_dropped x1 hd hR0 hu hT hg hf) sz) := by
  refine Met.ofW (cc := cX6_isMember) (maxL := 2) (ret := (some .boolean)) (by decide) rfl ?_
  intro p e s m args below meth c s₁ B hml hv
  obtain ⟨rfl, hsz, hP, hKN, hD0⟩ := hv
  have hx := B.exec
  have hb := B.bytes
  have hr := B.returns
  have hts := atoms_spec (ws := wq_k_X_isMember) B.pre
  have hown : s.vm.findClass RX6 = some m.cls := findClass_of_methodNamed B.named
  have hlocks := B.notSynchronized
  have hK := hKN.1
  have hfix : CallFix p m c cX6_isMember 2 s [.ref hX, .int x1].toArray wq_k_X_isMember RX6 := ⟨hx, hb, hml, hown, hts⟩
  have hi6 : ∀ w ∈ wsX60, w ∈ wq_k_X_isMember := (sb_c (sb_r (sb_r sb_l)))
  subst hsz
  have hD := hD0.self (sz := s.heap.size)
  generalize hAe : va_A (wc_k_X_isMember cyB cyI cyJ cyZ cyO hX xd x_tapeLength x_at x_top x_lyingCount x_fewest x_time hp pd p_mC p_nC p_kC p_units p_copy p_loss p_draw hs sd s_row s_size s_copier s_copyLeft s_tick s_seed s_dropped x1 hd hR0 hu hT hg hf) s.heap.size = A at hD ⊢
  have hA : ∀ q : Nat, s.heap.size ≤ q → A q := fun q h => by rw [← hAe]; exact Or.inr h
  have hS : va_S A s.heap s.heap [] := va_S.rf
  have hl := lv_entry ([.ref hX, .int x1]) (n := 2) (Nat.le_of_ble_eq_true rfl)
  rw [lg_entry_eq]
  generalize (lg_sl ([.ref hX, .int x1]) ++ List.replicate (2 - (lg_sl ([.ref hX, .int x1])).length) Slot.unset).toArray = ls at hl ⊢
  have hl : lv_has ls 2 [(0, .ref hX), (1, .int x1)] := hl
  have ck0 : (0 : Int32).toInt = 0 := by decide
  have ck1 : (1 : Int32).toInt = 1 := by decide
  refine lv_aload_n hx hb dX6_isMember_0 rfl (lv_at hl 0 rfl) ?_
  refine lv_iload_n hx hb dX6_isMember_1 rfl (lv_at hl 1 rfl) ?_
  refine gf_i (wr := [(hs, .inr (5, [.ref (sd 0), .ref (sd 1), .ref (sd 2), .ref (sd 3), .ref (sd 4), .ref (sd 5), .ref (sd 6), .int s_size, .int s_copier, .int s_copyLeft, .int s_tick, .int s_seed, .int s_dropped])), (sd 0, .inl (cyI, 6, .inl s_row))]) (va_runV (As := [.int x1]) (rest := []) hfix (k_X_isNode l dC dI cyB cyI cyJ cyZ cyO hX xd x_tapeLength x_at x_top x_lyingCount x_fewest x_time hp pd p_mC p_nC p_kC p_units p_copy p_loss p_draw x1 hd hR0 hu hs hT hg hf _ (by first | omega | assumption) (by first | omega | assumption) (by first | omega | assumption) (by first | omega | assumption) (by first | omega | assumption) (by first | omega | assumption) (by first | omega | assumption) (by first | omega | assumption) (by first | omega | assumption) (by first | omega | assumption) (by first | omega | assumption) (by first | omega | assumption) (by first | omega | assumption) (by first | omega | assumption) (by first | omega | assumption) (by first | omega | assumption) (by first | omega | assumption) (by first | omega | assumption)) (cwV 1 hts (gi_V (ow_m (k := 0) rfl) (ow_m (k := 1) rfl) (ow_m (k := 2) rfl) (ow_m (k := 3) rfl) (sb_c sb_l) gd_k_X_isNode) rfl rfl rfl (by decide +kernel) ⟨Nat.le_of_ble_eq_true rfl, Nat.le_of_ble_eq_true rfl⟩) (g_preV hKN hP hD [0, 1] rfl (by decide) 0 6 rfl rfl) rfl rfl hl.1 rfl (lv_room (Nat.le_of_ble_eq_true rfl)) dX6_isMember_2 ⟨Nat.le_of_ble_eq_true rfl, Nat.le_of_ble_eq_true rfl⟩) hP hD hS hA [0, 1] [2, 3] rfl rfl (by decide) (by decide) (fun r14501 u14502 H locs qu14502 hP hD hS => ?_)
  have b14503 := qu14502
  have hP : va_P (dC, dI) vwCl [(hs, .inr (5, [.ref (sd 0), .ref (sd 1), .ref (sd 2), .ref (sd 3), .ref (sd 4), .ref (sd 5), .ref (sd 6), .int s_size, .int s_copier, .int s_copyLeft, .int s_tick, .int s_seed, .int s_dropped])), (sd 0, .inl (cyI, 6, .inl s_row)), (hX, .inr (6, [.ref (xd 0), .int x_tapeLength, .ref hp, .ref hd, .ref hR0, .ref hu, .ref (xd 6), .int x_at, .int x_top, .ref hs, .ref hT, .ref (xd 11), .ref (xd 12), .ref (xd 13), .int x_lyingCount, .ref (xd 15), .int x_fewest, .ref hg, .ref (xd 18), .int x_time])), (hp, .inr (1, [.ref (pd 0), .ref (pd 1), .ref (pd 2), .ref hf, .int p_mC, .int p_nC, .int p_kC, .int p_units, .int p_copy, .int p_loss, .int p_draw]))] H := hP
  have hD : va_D A [(hs, .inr (5, [.ref (sd 0), .ref (sd 1), .ref (sd 2), .ref (sd 3), .ref (sd 4), .ref (sd 5), .ref (sd 6), .int s_size, .int s_copier, .int s_copyLeft, .int s_tick, .int s_seed, .int s_dropped])), (sd 0, .inl (cyI, 6, .inl s_row)), (hX, .inr (6, [.ref (xd 0), .int x_tapeLength, .ref hp, .ref hd, .ref hR0, .ref hu, .ref (xd 6), .int x_at, .int x_top, .ref hs, .ref hT, .ref (xd 11), .ref (xd 12), .ref (xd 13), .int x_lyingCount, .ref (xd 15), .int x_fewest, .ref hg, .ref (xd 18), .int x_time])), (hp, .inr (1, [.ref (pd 0), .ref (pd 1), .ref (pd 2), .ref hf, .int p_mC, .int p_nC, .int p_kC, .int p_units, .int p_copy, .int p_loss, .int p_draw]))] := hD
  rcases b14503 with ⟨rfl, b14504, b14505, b14506⟩ | rfl
  · skip
    refine lv_if_eq (tgt := 23) hx hb dX6_isMember_5 (by decide) (fun c14507 => absurd c14507 (by decide)) (fun _ => ?_)
    refine lv_aload_n hx hb dX6_isMember_8 rfl (lv_at hl 0 rfl) ?_
    refine va_get (D := (dC, dI)) (ci := 6) (v := .ref hs) (C := RX6) (T := TX6) (N := 20) hx hb hts hi6 hown hK hP 2 rfl rfl 9 (by decide) (hts _ (ow_m (k := 4) rfl)) (fun _ h9 => h9) rfl dX6_isMember_9 ?_
    refine lv_iload_n hx hb dX6_isMember_12 rfl (lv_at hl 1 rfl) ?_
    refine gf_i (wr := [(hX, .inr (6, [.ref (xd 0), .int x_tapeLength, .ref hp, .ref hd, .ref hR0, .ref hu, .ref (xd 6), .int x_at, .int x_top, .ref hs, .ref hT, .ref (xd 11), .ref (xd 12), .ref (xd 13), .int x_lyingCount, .ref (xd 15), .int x_fewest, .ref hg, .ref (xd 18), .int x_time])), (hp, .inr (1, [.ref (pd 0), .ref (pd 1), .ref (pd 2), .ref hf, .int p_mC, .int p_nC, .int p_kC, .int p_units, .int p_copy, .int p_loss, .int p_draw]))]) (va_runV (As := [.int x1]) (rest := []) hfix (k_St_placeOf l dC dI cyB cyI cyJ cyZ cyO hs sd s_row s_size s_copier s_copyLeft s_tick s_seed s_dropped x1 _ (by first | omega | assumption) (by first | omega | assumption) (by first | omega | assumption) (by first | omega | assumption) (by first | omega | assumption) (by first | omega | assumption) i0_s_row) (cwV 1 hts (gi_V (ow_m (k := 5) rfl) (ow_m (k := 6) rfl) (ow_m (k := 7) rfl) (ow_m (k := 8) rfl) (sb_c (sb_r sb_l)) gd_k_St_placeOf) rfl rfl rfl (by decide +kernel) ⟨Nat.le_of_ble_eq_true rfl, Nat.le_of_ble_eq_true rfl⟩) (g_preV hKN hP hD [0, 1] rfl (by decide) 0 5 rfl rfl) rfl rfl hl.1 rfl (lv_room (Nat.le_of_ble_eq_true rfl)) dX6_isMember_13 ⟨Nat.le_of_ble_eq_true rfl, Nat.le_of_ble_eq_true rfl⟩) hP hD hS hA [0, 1] [2, 3] rfl rfl (by decide) (by decide) (fun r14508 u14509 H locs qu14509 hP hD hS => ?_)
    obtain ⟨b14510, b14511, b14512, b14513⟩ := qu14509
    have hP : va_P (dC, dI) vwCl [(hX, .inr (6, [.ref (xd 0), .int x_tapeLength, .ref hp, .ref hd, .ref hR0, .ref hu, .ref (xd 6), .int x_at, .int x_top, .ref hs, .ref hT, .ref (xd 11), .ref (xd 12), .ref (xd 13), .int x_lyingCount, .ref (xd 15), .int x_fewest, .ref hg, .ref (xd 18), .int x_time])), (hp, .inr (1, [.ref (pd 0), .ref (pd 1), .ref (pd 2), .ref hf, .int p_mC, .int p_nC, .int p_kC, .int p_units, .int p_copy, .int p_loss, .int p_draw])), (hs, .inr (5, [.ref (sd 0), .ref (sd 1), .ref (sd 2), .ref (sd 3), .ref (sd 4), .ref (sd 5), .ref (sd 6), .int s_size, .int s_copier, .int s_copyLeft, .int s_tick, .int s_seed, .int s_dropped])), (sd 0, .inl (cyI, 6, .inl s_row))] H := hP
    have hD : va_D A [(hX, .inr (6, [.ref (xd 0), .int x_tapeLength, .ref hp, .ref hd, .ref hR0, .ref hu, .ref (xd 6), .int x_at, .int x_top, .ref hs, .ref hT, .ref (xd 11), .ref (xd 12), .ref (xd 13), .int x_lyingCount, .ref (xd 15), .int x_fewest, .ref hg, .ref (xd 18), .int x_time])), (hp, .inr (1, [.ref (pd 0), .ref (pd 1), .ref (pd 2), .ref hf, .int p_mC, .int p_nC, .int p_kC, .int p_units, .int p_copy, .int p_loss, .int p_draw])), (hs, .inr (5, [.ref (sd 0), .ref (sd 1), .ref (sd 2), .ref (sd 3), .ref (sd 4), .ref (sd 5), .ref (sd 6), .int s_size, .int s_copier, .int s_copyLeft, .int s_tick, .int s_seed, .int s_dropped])), (sd 0, .inl (cyI, 6, .inl s_row))] := hD
    refine lv_if_lt (tgt := 23) hx hb dX6_isMember_16 (by decide) (fun c14514 => ?_) (fun c14514 => ?_)
    · have c14514 := i_lt (a := r14508.toInt) (b := 0) c14514 rfl (by decide)
      refine lv_iconst (v := 0) hx hb dX6_isMember_23 (by decide) ?_
      exact W.zret (v := 0) hx hb hr (by decide) (fun t ht hW => ⟨⟨0, (), rfl, (Or.inr rfl), cE.of ht hP hD [0, 1, 2, 3] (by decide) rfl⟩, hS.F ht⟩) hS.2.2 dX6_isMember_24
    · have c14514 := i_nlt (a := r14508.toInt) (b := 0) c14514 rfl (by decide)
      refine lv_iconst (v := 1) hx hb dX6_isMember_19 (by decide) ?_
      refine lv_goto (tgt := 24) hx hb dX6_isMember_20 (by decide) ?_
      have w14515 : 0 ≤ x1.toInt := by first | omega | assumption | rfl
      have w14516 : x1.toInt < p_nC.toInt := by first | omega | assumption | rfl
      have w14517 : x1.toInt ≤ 7 := by first | omega | assumption | rfl
      have w14518 : 1 ≤ s_size.toInt := by first | omega | assumption | rfl
      exact W.zret (v := 1) hx hb hr (by decide) (fun t ht hW => ⟨⟨1, (), rfl, (Or.inl ⟨rfl, w14515, w14516, w14517, w14518⟩), cE.of ht hP hD [0, 1, 2, 3] (by decide) rfl⟩, hS.F ht⟩) hS.2.2 dX6_isMember_24
  · skip
    refine lv_if_eq (tgt := 23) hx hb dX6_isMember_5 (by decide) (fun _ => ?_) (fun c14519 => absurd (by decide) c14519)
    refine lv_iconst (v := 0) hx hb dX6_isMember_23 (by decide) ?_
    exact W.zret (v := 0) hx hb hr (by decide) (fun t ht hW => ⟨⟨0, (), rfl, (Or.inr rfl), cE.of ht hP hD [2, 3, 0, 1] (by decide) rfl⟩, hS.F ht⟩) hS.2.2 dX6_isMember_24
def wo_k_X_ticksThere : List Cond := [.fieldLink RX6 16 "ReplicaChain" "plan" "LReplicaChain$Plan;", .fieldLink RX6 138 "ReplicaChain$Plan" "slow" "LReplicaChain$Formula;", .fieldLink RX6 63 "ReplicaChain" "order" "[I", .fieldLink RX6 110 "ReplicaChain" "now" "LReplicaChain$State;", .fieldLink RX6 142 "ReplicaChain$State" "tick" "I", .methodLink RX6 145 yX0_delay, .instanceMethod yX0_delay, .selects RX0 yX0_delay yX0_delay, .initialized RX0]
def wq_k_X_ticksThere : List Cond := .code yX6_ticksThere cX6_ticksThere 4 (some .int) :: (wo_k_X_ticksThere ++ (wq_k_Fo_delay ++ (wsX10 ++ (wsX50 ++ (wsX60 ++ [])))))
theorem gd_k_X_ticksThere : Gd wq_k_X_ticksThere := gd_c (gd_a (gd_o (by decide +kernel)) (gd_a gd_k_Fo_delay (gd_a gd_u (gd_a gd_u (gd_a gd_u gd_0)))))
abbrev wc_k_X_ticksThere (cyB cyI cyJ cyZ cyO : ClassId) (hX : Nat) (xd : Nat → Nat) (x_order : Nat → Int32) (x_tapeLength : Int32) (x_at : Int32) (x_top : Int32) (x_lyingCount : Int32) (x_fewest : Int32) (x_time : Int32) (hp : Nat) (pd : Nat → Nat) (p_mC : Int32) (p_nC : Int32) (p_kC : Int32) (p_units : Int32) (p_copy : Int32) (p_loss : Int32) (p_draw : Int32) (hf : Nat) (fd : Nat → Nat) (f_steps : Nat → Int32) (f_stack : Nat → Int32) (f_facts : Nat → Int32) (f_length : Int32) (hs : Nat) (sd : Nat → Nat) (s_size : Int32) (s_copier : Int32) (s_copyLeft : Int32) (s_tick : Int32) (s_seed : Int32) (s_dropped : Int32) (x1 : Int32) (hd : Nat) (hR0 : Nat) (hu : Nat) (hT : Nat) (hg : Nat) : va_W := [(hX, .inr (6, [.ref (xd 0), .int x_tapeLength, .ref hp, .ref hd, .ref hR0, .ref hu, .ref (xd 6), .int x_at, .int x_top, .ref hs, .ref hT, .ref (xd 11), .ref (xd 12), .ref (xd 13), .int x_lyingCount, .ref (xd 15), .int x_fewest, .ref hg, .ref (xd 18), .int x_time])), (xd 15, .inl (cyI, 6, .inl x_order)), (hp, .inr (1, [.ref (pd 0), .ref (pd 1), .ref (pd 2), .ref hf, .int p_mC, .int p_nC, .int p_kC, .int p_units, .int p_copy, .int p_loss, .int p_draw])), (hf, .inr (0, [.ref (fd 0), .ref (fd 1), .ref (fd 2), .int f_length])), (fd 0, .inl (cyI, 270, .inl f_steps)), (fd 1, .inl (cyI, 31, .inl f_stack)), (fd 2, .inl (cyI, 6, .inl f_facts)), (hs, .inr (5, [.ref (sd 0), .ref (sd 1), .ref (sd 2), .ref (sd 3), .ref (sd 4), .ref (sd 5), .ref (sd 6), .int s_size, .int s_copier, .int s_copyLeft, .int s_tick, .int s_seed, .int s_dropped]))]
set_option maxHeartbeats 4000000 in
set_option maxRecDepth 100000 in
theorem k_X_ticksThere (l : Launch) (dC : Nat → ClassId) (dI : Nat → Nat → Nat) (cyB cyI cyJ cyZ cyO : ClassId) (hX : Nat) (xd : Nat → Nat) (x_order : Nat → Int32) (x_tapeLength : Int32) (x_at : Int32) (x_top : Int32) (x_lyingCount : Int32) (x_fewest : Int32) (x_time : Int32) (hp : Nat) (pd : Nat → Nat) (p_mC : Int32) (p_nC : Int32) (p_kC : Int32) (p_units : Int32) (p_copy : Int32) (p_loss : Int32) (p_draw : Int32) (hf : Nat) (fd : Nat → Nat) (f_steps : Nat → Int32) (f_stack : Nat → Int32) (f_facts : Nat → Int32) (f_length : Int32) (hs : Nat) (sd : Nat → Nat) (s_size : Int32) (s_copier : Int32) (s_copyLeft : Int32) (s_tick : Int32) (s_seed : Int32) (s_dropped : Int32) (x1 : Int32) (hd : Nat) (hR0 : Nat) (hu : Nat) (hT : Nat) (hg : Nat) (sz : Nat) (l_x_tapeLength : 0 ≤ x_tapeLength.toInt) (u_x_tapeLength : x_tapeLength.toInt ≤ 1600) (l_x_at : 0 ≤ x_at.toInt) (u_x_at : x_at.toInt ≤ 40) (l_x_top : 0 ≤ x_top.toInt) (u_x_top : x_top.toInt ≤ 40) (l_x_lyingCount : 0 ≤ x_lyingCount.toInt) (u_x_lyingCount : x_lyingCount.toInt ≤ 6) (l_x_time : 0 ≤ x_time.toInt) (u_x_time : x_time.toInt ≤ 100000) (l_p_mC : 0 ≤ p_mC.toInt) (u_p_mC : p_mC.toInt ≤ 6) (l_p_nC : 0 ≤ p_nC.toInt) (u_p_nC : p_nC.toInt ≤ 8) (l_p_kC : 0 ≤ p_kC.toInt) (u_p_kC : p_kC.toInt ≤ 4) (l_p_draw : 0 ≤ p_draw.toInt) (u_p_draw : p_draw.toInt ≤ 999) (l_f_length : 0 ≤ f_length.toInt) (u_f_length : f_length.toInt ≤ 270) (l_s_size : 0 ≤ s_size.toInt) (u_s_size : s_size.toInt ≤ 6) (l_s_copier : -1 ≤ s_copier.toInt) (u_s_copier : s_copier.toInt ≤ 7) (l_s_seed : 0 ≤ s_seed.toInt) (u_s_seed : s_seed.toInt ≤ 999) (l_x1 : 0 ≤ x1.toInt) (u_x1 : x1.toInt ≤ 6) : Met l yX6_ticksThere wq_k_X_ticksThere ({ frames := 2, cells := 0, slots := 0, locals := 53 }) (va_Pc [.ref hX, .int x1] (cB (dC, dI) (kT cyB cyI cyJ cyZ cyO) (wc_k_X_ticksThere cyB cyI cyJ cyZ cyO hX xd x_order x_tapeLength x_at x_top x_lyingCount x_fewest x_time hp pd p_mC p_nC p_kC p_units p_copy p_loss p_draw hf fd f_steps f_stack f_facts f_length hs sd s_size s_copier s_copyLeft s_tick s_seed s_dropped x1 hd hR0 hu hT hg) sz)) (va_Qi (fun (r : Int32) (u : ST4) => True) (fun (u : ST4) t => cE (dC, dI) (va_A (wc_k_X_ticksThere cyB cyI cyJ cyZ cyO hX xd x_order x_tapeLength x_at x_top x_lyingCount x_fewest x_time hp pd p_mC p_nC p_kC p_units p_copy p_loss p_draw hf fd f_steps f_stack f_facts f_length hs sd s_size s_copier s_copyLeft s_tick s_seed s_dropped x1 hd hR0 hu hT hg) sz) ([(hX, .inr (6, [.ref (xd 0), .int x_tapeLength, .ref hp, .ref hd, .ref hR0, .ref hu, .ref (xd 6), .int x_at, .int x_top, .ref hs, .ref hT, .ref (xd 11), .ref (xd 12), .ref (xd 13), .int x_lyingCount, .ref (xd 15), .int x_fewest, .ref hg, .ref (xd 18), .int x_time])), (xd 15, .inl (cyI, 6, .inl x_order)), (hp, .inr (1, [.ref (pd 0), .ref (pd 1), .ref (pd 2), .ref hf, .int p_mC, .int p_nC, .int p_kC, .int p_units, .int p_copy, .int p_loss, .int p_draw])), (hf, .inr (0, [.ref (fd 0), .ref (fd 1), .ref (fd 2), .int f_length])), (fd 0, .inl (cyI, 270, .inl f_steps)), (fd 1, .inl (cyI, 31, .inl (u.1 0))), (fd 2, .inl (cyI, 6, .inl (u.1 1))), (hs, .inr (5, [.ref (sd 0), .ref (sd 1), .ref (sd 2), .ref (sd 3), .ref (sd 4), .ref (sd 5), .ref (sd 6), .int s_size, .int s_copier, .int s_copyLeft, .int s_tick, .int s_seed, .int s_dropped]))]) t.heap) (va_A (wc_k_X_ticksThere cyB cyI cyJ cyZ cyO hX xd x_order x_tapeLength x_at x_top x_lyingCount x_fewest x_time hp pd p_mC p_nC p_kC p_units p_copy p_loss p_draw hf fd f_steps f_stack f_facts f_length hs sd s_size s_copier s_copyLeft s_tick s_seed s_dropped x1 hd hR0 hu hT hg) sz)) 0 0 (va_A (wc_k_X_ticksThere cyB cyI cyJ cyZ cyO hX xd x_order x_tapeLength x_at x_top x_lyingCount x_fewest x_time hp pd p_mC p_nC p_kC p_units p_copy p_loss p_draw hf fd f_steps f_stack f_facts f_length hs sd s_size s_copier s_copyLeft s_tick s_seed s_dropped x1 hd hR0 hu hT hg) sz) := by
  refine Met.ofW (cc := cX6_ticksThere) (maxL := 4) (ret := (some .int)) (by decide) rfl ?_
  intro p e s m args below meth c s₁ B hml hv
  obtain ⟨rfl, hsz, hP, hKN, hD0⟩ := hv
  have hx := B.exec
  have hb := B.bytes
  have hr := B.returns
  have hts := atoms_spec (ws := wq_k_X_ticksThere) B.pre
  have hown : s.vm.findClass RX6 = some m.cls := findClass_of_methodNamed B.named
  have hlocks := B.notSynchronized
  have hK := hKN.1
  have hfix : CallFix p m c cX6_ticksThere 4 s [.ref hX, .int x1].toArray wq_k_X_ticksThere RX6 := ⟨hx, hb, hml, hown, hts⟩
  have hi1 : ∀ w ∈ wsX10, w ∈ wq_k_X_ticksThere := (sb_c (sb_r sb_l))
  have hi5 : ∀ w ∈ wsX50, w ∈ wq_k_X_ticksThere := (sb_c (sb_r (sb_r sb_l)))
  have hi6 : ∀ w ∈ wsX60, w ∈ wq_k_X_ticksThere := (sb_c (sb_r (sb_r (sb_r sb_l))))
  subst hsz
  have hD := hD0.self (sz := s.heap.size)
  generalize hAe : va_A (wc_k_X_ticksThere cyB cyI cyJ cyZ cyO hX xd x_order x_tapeLength x_at x_top x_lyingCount x_fewest x_time hp pd p_mC p_nC p_kC p_units p_copy p_loss p_draw hf fd f_steps f_stack f_facts f_length hs sd s_size s_copier s_copyLeft s_tick s_seed s_dropped x1 hd hR0 hu hT hg) s.heap.size = A at hD ⊢
  have hA : ∀ q : Nat, s.heap.size ≤ q → A q := fun q h => by rw [← hAe]; exact Or.inr h
  have hS : va_S A s.heap s.heap [] := va_S.rf
  have hl := lv_entry ([.ref hX, .int x1]) (n := 4) (Nat.le_of_ble_eq_true rfl)
  rw [lg_entry_eq]
  generalize (lg_sl ([.ref hX, .int x1]) ++ List.replicate (4 - (lg_sl ([.ref hX, .int x1])).length) Slot.unset).toArray = ls at hl ⊢
  have hl : lv_has ls 4 [(0, .ref hX), (1, .int x1)] := hl
  have ck0 : (0 : Int32).toInt = 0 := by decide
  have ck1 : (1 : Int32).toInt = 1 := by decide
  refine lv_iconst (v := 0) hx hb dX6_ticksThere_0 (by decide) ?_
  refine lv_istore_n (lv' := [(2, .int 0), (0, .ref hX), (1, .int x1)]) hx hb dX6_ticksThere_1 rfl hl (by decide) rfl (fun ls hl => ?_)
  refine lv_iconst (v := 1) hx hb dX6_ticksThere_2 (by decide) ?_
  refine lv_istore_n (lv' := [(3, .int 1), (2, .int 0), (0, .ref hX), (1, .int x1)]) hx hb dX6_ticksThere_3 rfl hl (by decide) rfl (fun ls hl => ?_)
  refine w_gen (fun H locs ls hP hS hl => ?_) hP hS hl
  obtain ⟨f15754, f15755, v15756, v15757, hl2, hP2, hD2, b15758, b15759⟩ : ∃ (f15754 : Nat → Int32) (f15755 : Nat → Int32) (v15756 : Int32) (v15757 : Int32), lv_has ls 4 [(3, .int v15757), (2, .int v15756), (0, .ref hX), (1, .int x1)] ∧ va_P (dC, dI) vwCl [(hX, .inr (6, [.ref (xd 0), .int x_tapeLength, .ref hp, .ref hd, .ref hR0, .ref hu, .ref (xd 6), .int x_at, .int x_top, .ref hs, .ref hT, .ref (xd 11), .ref (xd 12), .ref (xd 13), .int x_lyingCount, .ref (xd 15), .int x_fewest, .ref hg, .ref (xd 18), .int x_time])), (xd 15, .inl (cyI, 6, .inl x_order)), (hp, .inr (1, [.ref (pd 0), .ref (pd 1), .ref (pd 2), .ref hf, .int p_mC, .int p_nC, .int p_kC, .int p_units, .int p_copy, .int p_loss, .int p_draw])), (hf, .inr (0, [.ref (fd 0), .ref (fd 1), .ref (fd 2), .int f_length])), (fd 0, .inl (cyI, 270, .inl f_steps)), (fd 1, .inl (cyI, 31, .inl f15754)), (fd 2, .inl (cyI, 6, .inl f15755)), (hs, .inr (5, [.ref (sd 0), .ref (sd 1), .ref (sd 2), .ref (sd 3), .ref (sd 4), .ref (sd 5), .ref (sd 6), .int s_size, .int s_copier, .int s_copyLeft, .int s_tick, .int s_seed, .int s_dropped]))] H ∧ va_D A [(hX, .inr (6, [.ref (xd 0), .int x_tapeLength, .ref hp, .ref hd, .ref hR0, .ref hu, .ref (xd 6), .int x_at, .int x_top, .ref hs, .ref hT, .ref (xd 11), .ref (xd 12), .ref (xd 13), .int x_lyingCount, .ref (xd 15), .int x_fewest, .ref hg, .ref (xd 18), .int x_time])), (xd 15, .inl (cyI, 6, .inl x_order)), (hp, .inr (1, [.ref (pd 0), .ref (pd 1), .ref (pd 2), .ref hf, .int p_mC, .int p_nC, .int p_kC, .int p_units, .int p_copy, .int p_loss, .int p_draw])), (hf, .inr (0, [.ref (fd 0), .ref (fd 1), .ref (fd 2), .int f_length])), (fd 0, .inl (cyI, 270, .inl f_steps)), (fd 1, .inl (cyI, 31, .inl f15754)), (fd 2, .inl (cyI, 6, .inl f15755)), (hs, .inr (5, [.ref (sd 0), .ref (sd 1), .ref (sd 2), .ref (sd 3), .ref (sd 4), .ref (sd 5), .ref (sd 6), .int s_size, .int s_copier, .int s_copyLeft, .int s_tick, .int s_seed, .int s_dropped]))] ∧ (1 ≤ v15757.toInt) ∧ (v15757.toInt ≤ 6) := ⟨f_stack, f_facts, (0 : Int32), (1 : Int32), hl, hP, hD, by first | assumption | omega, by first | assumption | omega⟩
  clear hP hl
  have hP := hP2
  have hD := hD2
  have hl := hl2
  clear hP2 hD2 hl2
  obtain ⟨n15760, hn15760⟩ : ∃ n : Nat, 6 - v15757.toInt < (n : Int) := ⟨(6 - v15757.toInt).toNat + 1, by omega⟩
  induction n15760 generalizing f15754 f15755 v15756 v15757 H locs ls with
  | zero => exfalso; omega
  | succ n15760 ih15761 =>
    refine lv_iload_n hx hb dX6_ticksThere_4 rfl (lv_at hl 0 rfl) ?_
    refine lv_iload_n hx hb dX6_ticksThere_5 rfl (lv_at hl 3 rfl) ?_
    refine lv_icmp_ge (tgt := 54) hx hb dX6_ticksThere_6 (by decide) (fun c15762 => ?_) (fun c15762 => ?_)
    · have c15762 := i_le (a := x1.toInt) (b := v15757.toInt) c15762 rfl rfl
      refine lv_iload_n hx hb dX6_ticksThere_54 rfl (lv_at hl 1 rfl) ?_
      exact W.iret (v := v15756) hx hb hr (fun t ht hW => ⟨⟨v15756, ((fun k => match k with | 0 => f15754 | _ => f15755), (fun _ => 0), (fun _ => 0), (fun _ => fun _ => 0)), rfl, trivial, cE.of ht hP hD [0, 1, 2, 3, 4, 5, 6, 7] (by decide) rfl⟩, hS.F ht⟩) hS.2.2 dX6_ticksThere_55
    · have c15762 := i_nle (a := x1.toInt) (b := v15757.toInt) c15762 rfl rfl
      refine lv_iload_n hx hb dX6_ticksThere_9 rfl (lv_at hl 1 rfl) ?_
      refine lv_aload_n hx hb dX6_ticksThere_10 rfl (lv_at hl 2 rfl) ?_
      refine va_get (D := (dC, dI)) (ci := 6) (v := .ref hp) (C := RX6) (T := TX6) (N := 20) hx hb hts hi6 hown hK hP 0 rfl rfl 2 (by decide) (hts _ (ow_m (k := 0) rfl)) (fun _ h9 => h9) rfl dX6_ticksThere_11 ?_
      refine va_get (D := (dC, dI)) (ci := 1) (v := .ref hf) (C := RX1) (T := TX1) (N := 11) hx hb hts hi1 hown hK hP 2 rfl rfl 3 (by decide) (hts _ (ow_m (k := 1) rfl)) (fun _ h9 => h9) rfl dX6_ticksThere_14 ?_
      refine lv_aload_n hx hb dX6_ticksThere_17 rfl (lv_at hl 2 rfl) ?_
      refine va_get (D := (dC, dI)) (ci := 6) (v := .ref (xd 15)) (C := RX6) (T := TX6) (N := 20) hx hb hts hi6 hown hK hP 0 rfl rfl 15 (by decide) (hts _ (ow_m (k := 2) rfl)) (fun _ h9 => h9) rfl dX6_ticksThere_18 ?_
      refine lv_iload_n hx hb dX6_ticksThere_21 rfl (lv_at hl 0 rfl) ?_
      refine lv_iconst (v := 1) hx hb dX6_ticksThere_22 (by decide) ?_
      refine lv_isub hx hb dX6_ticksThere_23 ?_
      refine lv_topi (fun z15763 ez15763 => ?_)
      have tz15763 := ti_sub (a := v15757.toInt) (b := 1) ez15763 rfl (by decide) (by omega) (by omega)
      refine va_iald hx hb hK hP 1 1 rfl rfl (vp_i rfl (by omega) (by omega)) dX6_ticksThere_24 ?_
      refine lv_topi (fun z15764 ez15764 => ?_)
      refine lv_aload_n hx hb dX6_ticksThere_25 rfl (lv_at hl 2 rfl) ?_
      refine va_get (D := (dC, dI)) (ci := 6) (v := .ref (xd 15)) (C := RX6) (T := TX6) (N := 20) hx hb hts hi6 hown hK hP 0 rfl rfl 15 (by decide) (hts _ (ow_m (k := 2) rfl)) (fun _ h9 => h9) rfl dX6_ticksThere_26 ?_
      refine lv_iload_n hx hb dX6_ticksThere_29 rfl (lv_at hl 0 rfl) ?_
      refine va_iald hx hb hK hP 1 1 rfl rfl (vp_i rfl (by omega) (by omega)) dX6_ticksThere_30 ?_
      refine lv_topi (fun z15765 ez15765 => ?_)
      refine lv_iconst (v := 1) hx hb dX6_ticksThere_31 (by decide) ?_
      refine lv_iconst (v := 0) hx hb dX6_ticksThere_32 (by decide) ?_
      refine lv_iconst (v := 0) hx hb dX6_ticksThere_33 (by decide) ?_
      refine lv_aload_n hx hb dX6_ticksThere_34 rfl (lv_at hl 2 rfl) ?_
      refine va_get (D := (dC, dI)) (ci := 6) (v := .ref hs) (C := RX6) (T := TX6) (N := 20) hx hb hts hi6 hown hK hP 0 rfl rfl 9 (by decide) (hts _ (ow_m (k := 3) rfl)) (fun _ h9 => h9) rfl dX6_ticksThere_35 ?_
      refine va_get (D := (dC, dI)) (ci := 5) (v := .int s_tick) (C := RX5) (T := TX5) (N := 13) hx hb hts hi5 hown hK hP 7 rfl rfl 10 (by decide) (hts _ (ow_m (k := 4) rfl)) (fun _ h9 => h9) rfl dX6_ticksThere_38 ?_
      refine lv_iload_n hx hb dX6_ticksThere_41 rfl (lv_at hl 1 rfl) ?_
      refine lv_iadd hx hb dX6_ticksThere_42 ?_
      refine lv_topi (fun z15766 ez15766 => ?_)
      refine gf_i (wr := [(hX, .inr (6, [.ref (xd 0), .int x_tapeLength, .ref hp, .ref hd, .ref hR0, .ref hu, .ref (xd 6), .int x_at, .int x_top, .ref hs, .ref hT, .ref (xd 11), .ref (xd 12), .ref (xd 13), .int x_lyingCount, .ref (xd 15), .int x_fewest, .ref hg, .ref (xd 18), .int x_time])), (xd 15, .inl (cyI, 6, .inl x_order)), (hp, .inr (1, [.ref (pd 0), .ref (pd 1), .ref (pd 2), .ref hf, .int p_mC, .int p_nC, .int p_kC, .int p_units, .int p_copy, .int p_loss, .int p_draw])), (hs, .inr (5, [.ref (sd 0), .ref (sd 1), .ref (sd 2), .ref (sd 3), .ref (sd 4), .ref (sd 5), .ref (sd 6), .int s_size, .int s_copier, .int s_copyLeft, .int s_tick, .int s_seed, .int s_dropped]))]) (va_runV (As := [.int z15764, .int z15765, .int 1, .int 0, .int 0, .int z15766]) (rest := [.int v15756]) hfix (k_Fo_delay l dC dI cyB cyI cyJ cyZ cyO hf fd f_steps f15754 f15755 f_length z15764 z15765 (1 : Int32) (0 : Int32) (0 : Int32) z15766 _ (by first | omega | assumption) (by first | omega | assumption)) (cwV 6 hts (gi_V (ow_m (k := 5) rfl) (ow_m (k := 6) rfl) (ow_m (k := 7) rfl) (ow_m (k := 8) rfl) (sb_c sb_l) gd_k_Fo_delay) rfl rfl rfl (by decide +kernel) ⟨Nat.le_of_ble_eq_true rfl, Nat.le_of_ble_eq_true rfl⟩) (g_preV hKN hP hD [3, 4, 5, 6] rfl (by decide) 0 0 rfl rfl) rfl rfl hl.1 rfl (lv_room (Nat.le_of_ble_eq_true rfl)) dX6_ticksThere_43 ⟨Nat.le_of_ble_eq_true rfl, Nat.le_of_ble_eq_true rfl⟩) hP hD hS hA [3, 4, 5, 6] [0, 1, 2, 7] rfl rfl (by decide) (by decide) (fun r15767 u15768 H locs qu15768 hP hD hS => ?_)
      obtain ⟨b15769, b15770⟩ := qu15768
      have hP : va_P (dC, dI) vwCl [(hX, .inr (6, [.ref (xd 0), .int x_tapeLength, .ref hp, .ref hd, .ref hR0, .ref hu, .ref (xd 6), .int x_at, .int x_top, .ref hs, .ref hT, .ref (xd 11), .ref (xd 12), .ref (xd 13), .int x_lyingCount, .ref (xd 15), .int x_fewest, .ref hg, .ref (xd 18), .int x_time])), (xd 15, .inl (cyI, 6, .inl x_order)), (hp, .inr (1, [.ref (pd 0), .ref (pd 1), .ref (pd 2), .ref hf, .int p_mC, .int p_nC, .int p_kC, .int p_units, .int p_copy, .int p_loss, .int p_draw])), (hs, .inr (5, [.ref (sd 0), .ref (sd 1), .ref (sd 2), .ref (sd 3), .ref (sd 4), .ref (sd 5), .ref (sd 6), .int s_size, .int s_copier, .int s_copyLeft, .int s_tick, .int s_seed, .int s_dropped])), (hf, .inr (0, [.ref (fd 0), .ref (fd 1), .ref (fd 2), .int f_length])), (fd 0, .inl (cyI, 270, .inl f_steps)), (fd 1, .inl (cyI, 31, .inl (u15768.1 0))), (fd 2, .inl (cyI, 6, .inl (u15768.1 1)))] H := hP
      have hD : va_D A [(hX, .inr (6, [.ref (xd 0), .int x_tapeLength, .ref hp, .ref hd, .ref hR0, .ref hu, .ref (xd 6), .int x_at, .int x_top, .ref hs, .ref hT, .ref (xd 11), .ref (xd 12), .ref (xd 13), .int x_lyingCount, .ref (xd 15), .int x_fewest, .ref hg, .ref (xd 18), .int x_time])), (xd 15, .inl (cyI, 6, .inl x_order)), (hp, .inr (1, [.ref (pd 0), .ref (pd 1), .ref (pd 2), .ref hf, .int p_mC, .int p_nC, .int p_kC, .int p_units, .int p_copy, .int p_loss, .int p_draw])), (hs, .inr (5, [.ref (sd 0), .ref (sd 1), .ref (sd 2), .ref (sd 3), .ref (sd 4), .ref (sd 5), .ref (sd 6), .int s_size, .int s_copier, .int s_copyLeft, .int s_tick, .int s_seed, .int s_dropped])), (hf, .inr (0, [.ref (fd 0), .ref (fd 1), .ref (fd 2), .int f_length])), (fd 0, .inl (cyI, 270, .inl f_steps)), (fd 1, .inl (cyI, 31, .inl (u15768.1 0))), (fd 2, .inl (cyI, 6, .inl (u15768.1 1)))] := hD
      refine lv_iadd hx hb dX6_ticksThere_46 ?_
      refine lv_topi (fun z15771 ez15771 => ?_)
      refine lv_istore_n (lv' := [(2, .int z15771), (3, .int v15757), (0, .ref hX), (1, .int x1)]) hx hb dX6_ticksThere_47 rfl hl (by decide) rfl (fun ls hl => ?_)
      obtain ⟨z15772, ez15772⟩ : ∃ y : Int32, y = v15757 + 1 := ⟨_, rfl⟩
      have tz15772 := ti_add (a := v15757.toInt) (b := 1) ez15772 rfl (by decide) (by omega) (by omega)
      refine lv_iinc (v := z15772) (lv' := [(3, .int z15772), (2, .int z15771), (0, .ref hX), (1, .int x1)]) hx hb dX6_ticksThere_48 hl (k := 1) rfl (by rw [ez15772]; rfl) (by decide) rfl (fun ls hl => ?_)
      refine lv_goto (tgt := 4) hx hb dX6_ticksThere_51 (by decide) ?_
      have hl := lv_sub (l' := [(3, .int z15772), (2, .int z15771), (0, .ref hX), (1, .int x1)]) hl [0, 1, 2, 3] rfl
      have hP : va_P (dC, dI) vwCl [(hX, .inr (6, [.ref (xd 0), .int x_tapeLength, .ref hp, .ref hd, .ref hR0, .ref hu, .ref (xd 6), .int x_at, .int x_top, .ref hs, .ref hT, .ref (xd 11), .ref (xd 12), .ref (xd 13), .int x_lyingCount, .ref (xd 15), .int x_fewest, .ref hg, .ref (xd 18), .int x_time])), (xd 15, .inl (cyI, 6, .inl x_order)), (hp, .inr (1, [.ref (pd 0), .ref (pd 1), .ref (pd 2), .ref hf, .int p_mC, .int p_nC, .int p_kC, .int p_units, .int p_copy, .int p_loss, .int p_draw])), (hf, .inr (0, [.ref (fd 0), .ref (fd 1), .ref (fd 2), .int f_length])), (fd 0, .inl (cyI, 270, .inl f_steps)), (fd 1, .inl (cyI, 31, .inl (u15768.1 0))), (fd 2, .inl (cyI, 6, .inl (u15768.1 1))), (hs, .inr (5, [.ref (sd 0), .ref (sd 1), .ref (sd 2), .ref (sd 3), .ref (sd 4), .ref (sd 5), .ref (sd 6), .int s_size, .int s_copier, .int s_copyLeft, .int s_tick, .int s_seed, .int s_dropped]))] H := g_sub (isC := [0, 1, 2, 4, 5, 6, 7, 3]) hP rfl
      have hD : va_D A [(hX, .inr (6, [.ref (xd 0), .int x_tapeLength, .ref hp, .ref hd, .ref hR0, .ref hu, .ref (xd 6), .int x_at, .int x_top, .ref hs, .ref hT, .ref (xd 11), .ref (xd 12), .ref (xd 13), .int x_lyingCount, .ref (xd 15), .int x_fewest, .ref hg, .ref (xd 18), .int x_time])), (xd 15, .inl (cyI, 6, .inl x_order)), (hp, .inr (1, [.ref (pd 0), .ref (pd 1), .ref (pd 2), .ref hf, .int p_mC, .int p_nC, .int p_kC, .int p_units, .int p_copy, .int p_loss, .int p_draw])), (hf, .inr (0, [.ref (fd 0), .ref (fd 1), .ref (fd 2), .int f_length])), (fd 0, .inl (cyI, 270, .inl f_steps)), (fd 1, .inl (cyI, 31, .inl (u15768.1 0))), (fd 2, .inl (cyI, 6, .inl (u15768.1 1))), (hs, .inr (5, [.ref (sd 0), .ref (sd 1), .ref (sd 2), .ref (sd 3), .ref (sd 4), .ref (sd 5), .ref (sd 6), .int s_size, .int s_copier, .int s_copyLeft, .int s_tick, .int s_seed, .int s_dropped]))] := hD.sub [0, 1, 2, 4, 5, 6, 7, 3] (by decide) rfl
      apply ih15761 (f15754 := u15768.1 0) (f15755 := u15768.1 1) (v15756 := z15771) (v15757 := z15772) (H := H) (locs := locs) (ls := ls) <;> first | assumption | omega
def wo_k_X_ticksBack : List Cond := [.fieldLink RX6 16 "ReplicaChain" "plan" "LReplicaChain$Plan;", .fieldLink RX6 138 "ReplicaChain$Plan" "slow" "LReplicaChain$Formula;", .fieldLink RX6 63 "ReplicaChain" "order" "[I", .fieldLink RX6 110 "ReplicaChain" "now" "LReplicaChain$State;", .fieldLink RX6 142 "ReplicaChain$State" "tick" "I", .methodLink RX6 145 yX0_delay, .instanceMethod yX0_delay, .selects RX0 yX0_delay yX0_delay, .initialized RX0]
def wq_k_X_ticksBack : List Cond := .code yX6_ticksBack cX6_ticksBack 5 (some .int) :: (wo_k_X_ticksBack ++ (wq_k_Fo_delay ++ (wsX10 ++ (wsX50 ++ (wsX60 ++ [])))))
theorem gd_k_X_ticksBack : Gd wq_k_X_ticksBack := gd_c (gd_a (gd_o (by decide +kernel)) (gd_a gd_k_Fo_delay (gd_a gd_u (gd_a gd_u (gd_a gd_u gd_0)))))
abbrev wc_k_X_ticksBack (cyB cyI cyJ cyZ cyO : ClassId) (hX : Nat) (xd : Nat → Nat) (x_order : Nat → Int32) (x_tapeLength : Int32) (x_at : Int32) (x_top : Int32) (x_lyingCount : Int32) (x_fewest : Int32) (x_time : Int32) (hp : Nat) (pd : Nat → Nat) (p_mC : Int32) (p_nC : Int32) (p_kC : Int32) (p_units : Int32) (p_copy : Int32) (p_loss : Int32) (p_draw : Int32) (hf : Nat) (fd : Nat → Nat) (f_steps : Nat → Int32) (f_stack : Nat → Int32) (f_facts : Nat → Int32) (f_length : Int32) (hs : Nat) (sd : Nat → Nat) (s_size : Int32) (s_copier : Int32) (s_copyLeft : Int32) (s_tick : Int32) (s_seed : Int32) (s_dropped : Int32) (x1 : Int32) (x2 : Int32) (hd : Nat) (hR0 : Nat) (hu : Nat) (hT : Nat) (hg : Nat) : va_W := [(hX, .inr (6, [.ref (xd 0), .int x_tapeLength, .ref hp, .ref hd, .ref hR0, .ref hu, .ref (xd 6), .int x_at, .int x_top, .ref hs, .ref hT, .ref (xd 11), .ref (xd 12), .ref (xd 13), .int x_lyingCount, .ref (xd 15), .int x_fewest, .ref hg, .ref (xd 18), .int x_time])), (xd 15, .inl (cyI, 6, .inl x_order)), (hp, .inr (1, [.ref (pd 0), .ref (pd 1), .ref (pd 2), .ref hf, .int p_mC, .int p_nC, .int p_kC, .int p_units, .int p_copy, .int p_loss, .int p_draw])), (hf, .inr (0, [.ref (fd 0), .ref (fd 1), .ref (fd 2), .int f_length])), (fd 0, .inl (cyI, 270, .inl f_steps)), (fd 1, .inl (cyI, 31, .inl f_stack)), (fd 2, .inl (cyI, 6, .inl f_facts)), (hs, .inr (5, [.ref (sd 0), .ref (sd 1), .ref (sd 2), .ref (sd 3), .ref (sd 4), .ref (sd 5), .ref (sd 6), .int s_size, .int s_copier, .int s_copyLeft, .int s_tick, .int s_seed, .int s_dropped]))]
set_option maxHeartbeats 4000000 in
set_option maxRecDepth 100000 in
theorem k_X_ticksBack (l : Launch) (dC : Nat → ClassId) (dI : Nat → Nat → Nat) (cyB cyI cyJ cyZ cyO : ClassId) (hX : Nat) (xd : Nat → Nat) (x_order : Nat → Int32) (x_tapeLength : Int32) (x_at : Int32) (x_top : Int32) (x_lyingCount : Int32) (x_fewest : Int32) (x_time : Int32) (hp : Nat) (pd : Nat → Nat) (p_mC : Int32) (p_nC : Int32) (p_kC : Int32) (p_units : Int32) (p_copy : Int32) (p_loss : Int32) (p_draw : Int32) (hf : Nat) (fd : Nat → Nat) (f_steps : Nat → Int32) (f_stack : Nat → Int32) (f_facts : Nat → Int32) (f_length : Int32) (hs : Nat) (sd : Nat → Nat) (s_size : Int32) (s_copier : Int32) (s_copyLeft : Int32) (s_tick : Int32) (s_seed : Int32) (s_dropped : Int32) (x1 : Int32) (x2 : Int32) (hd : Nat) (hR0 : Nat) (hu : Nat) (hT : Nat) (hg : Nat) (sz : Nat) (l_x_tapeLength : 0 ≤ x_tapeLength.toInt) (u_x_tapeLength : x_tapeLength.toInt ≤ 1600) (l_x_at : 0 ≤ x_at.toInt) (u_x_at : x_at.toInt ≤ 40) (l_x_top : 0 ≤ x_top.toInt) (u_x_top : x_top.toInt ≤ 40) (l_x_lyingCount : 0 ≤ x_lyingCount.toInt) (u_x_lyingCount : x_lyingCount.toInt ≤ 6) (l_x_time : 0 ≤ x_time.toInt) (u_x_time : x_time.toInt ≤ 100000) (l_p_mC : 0 ≤ p_mC.toInt) (u_p_mC : p_mC.toInt ≤ 6) (l_p_nC : 0 ≤ p_nC.toInt) (u_p_nC : p_nC.toInt ≤ 8) (l_p_kC : 0 ≤ p_kC.toInt) (u_p_kC : p_kC.toInt ≤ 4) (l_p_draw : 0 ≤ p_draw.toInt) (u_p_draw : p_draw.toInt ≤ 999) (l_f_length : 0 ≤ f_length.toInt) (u_f_length : f_length.toInt ≤ 270) (l_s_size : 0 ≤ s_size.toInt) (u_s_size : s_size.toInt ≤ 6) (l_s_copier : -1 ≤ s_copier.toInt) (u_s_copier : s_copier.toInt ≤ 7) (l_s_seed : 0 ≤ s_seed.toInt) (u_s_seed : s_seed.toInt ≤ 999) (l_x1 : 0 ≤ x1.toInt) (u_x1 : x1.toInt ≤ 6) : Met l yX6_ticksBack wq_k_X_ticksBack ({ frames := 2, cells := 0, slots := 0, locals := 53 }) (va_Pc [.ref hX, .int x1, .int x2] (cB (dC, dI) (kT cyB cyI cyJ cyZ cyO) (wc_k_X_ticksBack cyB cyI cyJ cyZ cyO hX xd x_order x_tapeLength x_at x_top x_lyingCount x_fewest x_time hp pd p_mC p_nC p_kC p_units p_copy p_loss p_draw hf fd f_steps f_stack f_facts f_length hs sd s_size s_copier s_copyLeft s_tick s_seed s_dropped x1 x2 hd hR0 hu hT hg) sz)) (va_Qi (fun (r : Int32) (u : ST4) => True) (fun (u : ST4) t => cE (dC, dI) (va_A (wc_k_X_ticksBack cyB cyI cyJ cyZ cyO hX xd x_order x_tapeLength x_at x_top x_lyingCount x_fewest x_time hp pd p_mC p_nC p_kC p_units p_copy p_loss p_draw hf fd f_steps f_stack f_facts f_length hs sd s_size s_copier s_copyLeft s_tick s_seed s_dropped x1 x2 hd hR0 hu hT hg) sz) ([(hX, .inr (6, [.ref (xd 0), .int x_tapeLength, .ref hp, .ref hd, .ref hR0, .ref hu, .ref (xd 6), .int x_at, .int x_top, .ref hs, .ref hT, .ref (xd 11), .ref (xd 12), .ref (xd 13), .int x_lyingCount, .ref (xd 15), .int x_fewest, .ref hg, .ref (xd 18), .int x_time])), (xd 15, .inl (cyI, 6, .inl x_order)), (hp, .inr (1, [.ref (pd 0), .ref (pd 1), .ref (pd 2), .ref hf, .int p_mC, .int p_nC, .int p_kC, .int p_units, .int p_copy, .int p_loss, .int p_draw])), (hf, .inr (0, [.ref (fd 0), .ref (fd 1), .ref (fd 2), .int f_length])), (fd 0, .inl (cyI, 270, .inl f_steps)), (fd 1, .inl (cyI, 31, .inl (u.1 0))), (fd 2, .inl (cyI, 6, .inl (u.1 1))), (hs, .inr (5, [.ref (sd 0), .ref (sd 1), .ref (sd 2), .ref (sd 3), .ref (sd 4), .ref (sd 5), .ref (sd 6), .int s_size, .int s_copier, .int s_copyLeft, .int s_tick, .int s_seed, .int s_dropped]))]) t.heap) (va_A (wc_k_X_ticksBack cyB cyI cyJ cyZ cyO hX xd x_order x_tapeLength x_at x_top x_lyingCount x_fewest x_time hp pd p_mC p_nC p_kC p_units p_copy p_loss p_draw hf fd f_steps f_stack f_facts f_length hs sd s_size s_copier s_copyLeft s_tick s_seed s_dropped x1 x2 hd hR0 hu hT hg) sz)) 0 0 (va_A (wc_k_X_ticksBack cyB cyI cyJ cyZ cyO hX xd x_order x_tapeLength x_at x_top x_lyingCount x_fewest x_time hp pd p_mC p_nC p_kC p_units p_copy p_loss p_draw hf fd f_steps f_stack f_facts f_length hs sd s_size s_copier s_copyLeft s_tick s_seed s_dropped x1 x2 hd hR0 hu hT hg) sz) := by
  refine Met.ofW (cc := cX6_ticksBack) (maxL := 5) (ret := (some .int)) (by decide) rfl ?_
  intro p e s m args below meth c s₁ B hml hv
  obtain ⟨rfl, hsz, hP, hKN, hD0⟩ := hv
  have hx := B.exec
  have hb := B.bytes
  have hr := B.returns
  have hts := atoms_spec (ws := wq_k_X_ticksBack) B.pre
  have hown : s.vm.findClass RX6 = some m.cls := findClass_of_methodNamed B.named
  have hlocks := B.notSynchronized
  have hK := hKN.1
  have hfix : CallFix p m c cX6_ticksBack 5 s [.ref hX, .int x1, .int x2].toArray wq_k_X_ticksBack RX6 := ⟨hx, hb, hml, hown, hts⟩
  have hi1 : ∀ w ∈ wsX10, w ∈ wq_k_X_ticksBack := (sb_c (sb_r sb_l))
  have hi5 : ∀ w ∈ wsX50, w ∈ wq_k_X_ticksBack := (sb_c (sb_r (sb_r sb_l)))
  have hi6 : ∀ w ∈ wsX60, w ∈ wq_k_X_ticksBack := (sb_c (sb_r (sb_r (sb_r sb_l))))
  subst hsz
  have hD := hD0.self (sz := s.heap.size)
  generalize hAe : va_A (wc_k_X_ticksBack cyB cyI cyJ cyZ cyO hX xd x_order x_tapeLength x_at x_top x_lyingCount x_fewest x_time hp pd p_mC p_nC p_kC p_units p_copy p_loss p_draw hf fd f_steps f_stack f_facts f_length hs sd s_size s_copier s_copyLeft s_tick s_seed s_dropped x1 x2 hd hR0 hu hT hg) s.heap.size = A at hD ⊢
  have hA : ∀ q : Nat, s.heap.size ≤ q → A q := fun q h => by rw [← hAe]; exact Or.inr h
  have hS : va_S A s.heap s.heap [] := va_S.rf
  have hl := lv_entry ([.ref hX, .int x1, .int x2]) (n := 5) (Nat.le_of_ble_eq_true rfl)
  rw [lg_entry_eq]
  generalize (lg_sl ([.ref hX, .int x1, .int x2]) ++ List.replicate (5 - (lg_sl ([.ref hX, .int x1, .int x2])).length) Slot.unset).toArray = ls at hl ⊢
  have hl : lv_has ls 5 [(0, .ref hX), (1, .int x1), (2, .int x2)] := hl
  have ck0 : (0 : Int32).toInt = 0 := by decide
  have ck1 : (1 : Int32).toInt = 1 := by decide
  refine lv_iload_n hx hb dX6_ticksBack_0 rfl (lv_at hl 2 rfl) ?_
  refine lv_istore_n (lv' := [(3, .int x2), (0, .ref hX), (1, .int x1), (2, .int x2)]) hx hb dX6_ticksBack_1 rfl hl (by decide) rfl (fun ls hl => ?_)
  refine lv_iload_n hx hb dX6_ticksBack_2 rfl (lv_at hl 2 rfl) ?_
  refine lv_iconst (v := 1) hx hb dX6_ticksBack_3 (by decide) ?_
  refine lv_isub hx hb dX6_ticksBack_4 ?_
  refine lv_topi (fun z15841 ez15841 => ?_)
  have tz15841 := ti_sub (a := x1.toInt) (b := 1) ez15841 rfl (by decide) (by omega) (by omega)
  refine lv_istore (lv' := [(4, .int z15841), (3, .int x2), (0, .ref hX), (1, .int x1), (2, .int x2)]) hx hb dX6_ticksBack_5 hl (by decide) rfl (fun ls hl => ?_)
  refine w_gen (fun H locs ls hP hS hl => ?_) hP hS hl
  obtain ⟨f15842, f15843, v15844, v15845, hl2, hP2, hD2, b15846, b15847⟩ : ∃ (f15842 : Nat → Int32) (f15843 : Nat → Int32) (v15844 : Int32) (v15845 : Int32), lv_has ls 5 [(4, .int v15845), (3, .int v15844), (0, .ref hX), (1, .int x1), (2, .int x2)] ∧ va_P (dC, dI) vwCl [(hX, .inr (6, [.ref (xd 0), .int x_tapeLength, .ref hp, .ref hd, .ref hR0, .ref hu, .ref (xd 6), .int x_at, .int x_top, .ref hs, .ref hT, .ref (xd 11), .ref (xd 12), .ref (xd 13), .int x_lyingCount, .ref (xd 15), .int x_fewest, .ref hg, .ref (xd 18), .int x_time])), (xd 15, .inl (cyI, 6, .inl x_order)), (hp, .inr (1, [.ref (pd 0), .ref (pd 1), .ref (pd 2), .ref hf, .int p_mC, .int p_nC, .int p_kC, .int p_units, .int p_copy, .int p_loss, .int p_draw])), (hf, .inr (0, [.ref (fd 0), .ref (fd 1), .ref (fd 2), .int f_length])), (fd 0, .inl (cyI, 270, .inl f_steps)), (fd 1, .inl (cyI, 31, .inl f15842)), (fd 2, .inl (cyI, 6, .inl f15843)), (hs, .inr (5, [.ref (sd 0), .ref (sd 1), .ref (sd 2), .ref (sd 3), .ref (sd 4), .ref (sd 5), .ref (sd 6), .int s_size, .int s_copier, .int s_copyLeft, .int s_tick, .int s_seed, .int s_dropped]))] H ∧ va_D A [(hX, .inr (6, [.ref (xd 0), .int x_tapeLength, .ref hp, .ref hd, .ref hR0, .ref hu, .ref (xd 6), .int x_at, .int x_top, .ref hs, .ref hT, .ref (xd 11), .ref (xd 12), .ref (xd 13), .int x_lyingCount, .ref (xd 15), .int x_fewest, .ref hg, .ref (xd 18), .int x_time])), (xd 15, .inl (cyI, 6, .inl x_order)), (hp, .inr (1, [.ref (pd 0), .ref (pd 1), .ref (pd 2), .ref hf, .int p_mC, .int p_nC, .int p_kC, .int p_units, .int p_copy, .int p_loss, .int p_draw])), (hf, .inr (0, [.ref (fd 0), .ref (fd 1), .ref (fd 2), .int f_length])), (fd 0, .inl (cyI, 270, .inl f_steps)), (fd 1, .inl (cyI, 31, .inl f15842)), (fd 2, .inl (cyI, 6, .inl f15843)), (hs, .inr (5, [.ref (sd 0), .ref (sd 1), .ref (sd 2), .ref (sd 3), .ref (sd 4), .ref (sd 5), .ref (sd 6), .int s_size, .int s_copier, .int s_copyLeft, .int s_tick, .int s_seed, .int s_dropped]))] ∧ (-1 ≤ v15845.toInt) ∧ (v15845.toInt ≤ 5) := ⟨f_stack, f_facts, x2, z15841, hl, hP, hD, by first | assumption | omega, by first | assumption | omega⟩
  clear hP hl
  have hP := hP2
  have hD := hD2
  have hl := hl2
  clear hP2 hD2 hl2
  obtain ⟨n15848, hn15848⟩ : ∃ n : Nat, v15845.toInt - (-1) < (n : Int) := ⟨(v15845.toInt - (-1)).toNat + 1, by omega⟩
  induction n15848 generalizing f15842 f15843 v15844 v15845 H locs ls with
  | zero => exfalso; omega
  | succ n15848 ih15849 =>
    refine lv_iload hx hb dX6_ticksBack_7 (lv_at hl 0 rfl) ?_
    refine lv_if_le (tgt := 59) hx hb dX6_ticksBack_9 (by decide) (fun c15850 => ?_) (fun c15850 => ?_)
    · have c15850 := i_le (a := v15845.toInt) (b := 0) c15850 rfl (by decide)
      refine lv_iload_n hx hb dX6_ticksBack_59 rfl (lv_at hl 1 rfl) ?_
      exact W.iret (v := v15844) hx hb hr (fun t ht hW => ⟨⟨v15844, ((fun k => match k with | 0 => f15842 | _ => f15843), (fun _ => 0), (fun _ => 0), (fun _ => fun _ => 0)), rfl, trivial, cE.of ht hP hD [0, 1, 2, 3, 4, 5, 6, 7] (by decide) rfl⟩, hS.F ht⟩) hS.2.2 dX6_ticksBack_60
    · have c15850 := i_nle (a := v15845.toInt) (b := 0) c15850 rfl (by decide)
      refine lv_iload_n hx hb dX6_ticksBack_12 rfl (lv_at hl 1 rfl) ?_
      refine lv_aload_n hx hb dX6_ticksBack_13 rfl (lv_at hl 2 rfl) ?_
      refine va_get (D := (dC, dI)) (ci := 6) (v := .ref hp) (C := RX6) (T := TX6) (N := 20) hx hb hts hi6 hown hK hP 0 rfl rfl 2 (by decide) (hts _ (ow_m (k := 0) rfl)) (fun _ h9 => h9) rfl dX6_ticksBack_14 ?_
      refine va_get (D := (dC, dI)) (ci := 1) (v := .ref hf) (C := RX1) (T := TX1) (N := 11) hx hb hts hi1 hown hK hP 2 rfl rfl 3 (by decide) (hts _ (ow_m (k := 1) rfl)) (fun _ h9 => h9) rfl dX6_ticksBack_17 ?_
      refine lv_aload_n hx hb dX6_ticksBack_20 rfl (lv_at hl 2 rfl) ?_
      refine va_get (D := (dC, dI)) (ci := 6) (v := .ref (xd 15)) (C := RX6) (T := TX6) (N := 20) hx hb hts hi6 hown hK hP 0 rfl rfl 15 (by decide) (hts _ (ow_m (k := 2) rfl)) (fun _ h9 => h9) rfl dX6_ticksBack_21 ?_
      refine lv_iload hx hb dX6_ticksBack_24 (lv_at hl 0 rfl) ?_
      refine va_iald hx hb hK hP 1 1 rfl rfl (vp_i rfl (by omega) (by omega)) dX6_ticksBack_26 ?_
      refine lv_topi (fun z15851 ez15851 => ?_)
      refine lv_aload_n hx hb dX6_ticksBack_27 rfl (lv_at hl 2 rfl) ?_
      refine va_get (D := (dC, dI)) (ci := 6) (v := .ref (xd 15)) (C := RX6) (T := TX6) (N := 20) hx hb hts hi6 hown hK hP 0 rfl rfl 15 (by decide) (hts _ (ow_m (k := 2) rfl)) (fun _ h9 => h9) rfl dX6_ticksBack_28 ?_
      refine lv_iload hx hb dX6_ticksBack_31 (lv_at hl 0 rfl) ?_
      refine lv_iconst (v := 1) hx hb dX6_ticksBack_33 (by decide) ?_
      refine lv_isub hx hb dX6_ticksBack_34 ?_
      refine lv_topi (fun z15852 ez15852 => ?_)
      have tz15852 := ti_sub (a := v15845.toInt) (b := 1) ez15852 rfl (by decide) (by omega) (by omega)
      refine va_iald hx hb hK hP 1 1 rfl rfl (vp_i rfl (by omega) (by omega)) dX6_ticksBack_35 ?_
      refine lv_topi (fun z15853 ez15853 => ?_)
      refine lv_iconst (v := 1) hx hb dX6_ticksBack_36 (by decide) ?_
      refine lv_iconst (v := 0) hx hb dX6_ticksBack_37 (by decide) ?_
      refine lv_iconst (v := 1) hx hb dX6_ticksBack_38 (by decide) ?_
      refine lv_aload_n hx hb dX6_ticksBack_39 rfl (lv_at hl 2 rfl) ?_
      refine va_get (D := (dC, dI)) (ci := 6) (v := .ref hs) (C := RX6) (T := TX6) (N := 20) hx hb hts hi6 hown hK hP 0 rfl rfl 9 (by decide) (hts _ (ow_m (k := 3) rfl)) (fun _ h9 => h9) rfl dX6_ticksBack_40 ?_
      refine va_get (D := (dC, dI)) (ci := 5) (v := .int s_tick) (C := RX5) (T := TX5) (N := 13) hx hb hts hi5 hown hK hP 7 rfl rfl 10 (by decide) (hts _ (ow_m (k := 4) rfl)) (fun _ h9 => h9) rfl dX6_ticksBack_43 ?_
      refine lv_iload_n hx hb dX6_ticksBack_46 rfl (lv_at hl 1 rfl) ?_
      refine lv_iadd hx hb dX6_ticksBack_47 ?_
      refine lv_topi (fun z15854 ez15854 => ?_)
      refine gf_i (wr := [(hX, .inr (6, [.ref (xd 0), .int x_tapeLength, .ref hp, .ref hd, .ref hR0, .ref hu, .ref (xd 6), .int x_at, .int x_top, .ref hs, .ref hT, .ref (xd 11), .ref (xd 12), .ref (xd 13), .int x_lyingCount, .ref (xd 15), .int x_fewest, .ref hg, .ref (xd 18), .int x_time])), (xd 15, .inl (cyI, 6, .inl x_order)), (hp, .inr (1, [.ref (pd 0), .ref (pd 1), .ref (pd 2), .ref hf, .int p_mC, .int p_nC, .int p_kC, .int p_units, .int p_copy, .int p_loss, .int p_draw])), (hs, .inr (5, [.ref (sd 0), .ref (sd 1), .ref (sd 2), .ref (sd 3), .ref (sd 4), .ref (sd 5), .ref (sd 6), .int s_size, .int s_copier, .int s_copyLeft, .int s_tick, .int s_seed, .int s_dropped]))]) (va_runV (As := [.int z15851, .int z15853, .int 1, .int 0, .int 1, .int z15854]) (rest := [.int v15844]) hfix (k_Fo_delay l dC dI cyB cyI cyJ cyZ cyO hf fd f_steps f15842 f15843 f_length z15851 z15853 (1 : Int32) (0 : Int32) (1 : Int32) z15854 _ (by first | omega | assumption) (by first | omega | assumption)) (cwV 6 hts (gi_V (ow_m (k := 5) rfl) (ow_m (k := 6) rfl) (ow_m (k := 7) rfl) (ow_m (k := 8) rfl) (sb_c sb_l) gd_k_Fo_delay) rfl rfl rfl (by decide +kernel) ⟨Nat.le_of_ble_eq_true rfl, Nat.le_of_ble_eq_true rfl⟩) (g_preV hKN hP hD [3, 4, 5, 6] rfl (by decide) 0 0 rfl rfl) rfl rfl hl.1 rfl (lv_room (Nat.le_of_ble_eq_true rfl)) dX6_ticksBack_48 ⟨Nat.le_of_ble_eq_true rfl, Nat.le_of_ble_eq_true rfl⟩) hP hD hS hA [3, 4, 5, 6] [0, 1, 2, 7] rfl rfl (by decide) (by decide) (fun r15855 u15856 H locs qu15856 hP hD hS => ?_)
      obtain ⟨b15857, b15858⟩ := qu15856
      have hP : va_P (dC, dI) vwCl [(hX, .inr (6, [.ref (xd 0), .int x_tapeLength, .ref hp, .ref hd, .ref hR0, .ref hu, .ref (xd 6), .int x_at, .int x_top, .ref hs, .ref hT, .ref (xd 11), .ref (xd 12), .ref (xd 13), .int x_lyingCount, .ref (xd 15), .int x_fewest, .ref hg, .ref (xd 18), .int x_time])), (xd 15, .inl (cyI, 6, .inl x_order)), (hp, .inr (1, [.ref (pd 0), .ref (pd 1), .ref (pd 2), .ref hf, .int p_mC, .int p_nC, .int p_kC, .int p_units, .int p_copy, .int p_loss, .int p_draw])), (hs, .inr (5, [.ref (sd 0), .ref (sd 1), .ref (sd 2), .ref (sd 3), .ref (sd 4), .ref (sd 5), .ref (sd 6), .int s_size, .int s_copier, .int s_copyLeft, .int s_tick, .int s_seed, .int s_dropped])), (hf, .inr (0, [.ref (fd 0), .ref (fd 1), .ref (fd 2), .int f_length])), (fd 0, .inl (cyI, 270, .inl f_steps)), (fd 1, .inl (cyI, 31, .inl (u15856.1 0))), (fd 2, .inl (cyI, 6, .inl (u15856.1 1)))] H := hP
      have hD : va_D A [(hX, .inr (6, [.ref (xd 0), .int x_tapeLength, .ref hp, .ref hd, .ref hR0, .ref hu, .ref (xd 6), .int x_at, .int x_top, .ref hs, .ref hT, .ref (xd 11), .ref (xd 12), .ref (xd 13), .int x_lyingCount, .ref (xd 15), .int x_fewest, .ref hg, .ref (xd 18), .int x_time])), (xd 15, .inl (cyI, 6, .inl x_order)), (hp, .inr (1, [.ref (pd 0), .ref (pd 1), .ref (pd 2), .ref hf, .int p_mC, .int p_nC, .int p_kC, .int p_units, .int p_copy, .int p_loss, .int p_draw])), (hs, .inr (5, [.ref (sd 0), .ref (sd 1), .ref (sd 2), .ref (sd 3), .ref (sd 4), .ref (sd 5), .ref (sd 6), .int s_size, .int s_copier, .int s_copyLeft, .int s_tick, .int s_seed, .int s_dropped])), (hf, .inr (0, [.ref (fd 0), .ref (fd 1), .ref (fd 2), .int f_length])), (fd 0, .inl (cyI, 270, .inl f_steps)), (fd 1, .inl (cyI, 31, .inl (u15856.1 0))), (fd 2, .inl (cyI, 6, .inl (u15856.1 1)))] := hD
      refine lv_iadd hx hb dX6_ticksBack_51 ?_
      refine lv_topi (fun z15859 ez15859 => ?_)
      refine lv_istore_n (lv' := [(3, .int z15859), (4, .int v15845), (0, .ref hX), (1, .int x1), (2, .int x2)]) hx hb dX6_ticksBack_52 rfl hl (by decide) rfl (fun ls hl => ?_)
      obtain ⟨z15860, ez15860⟩ : ∃ y : Int32, y = v15845 + (-1) := ⟨_, rfl⟩
      have tz15860 := ti_add (a := v15845.toInt) (b := (-1)) ez15860 rfl (by decide) (by omega) (by omega)
      refine lv_iinc (v := z15860) (lv' := [(4, .int z15860), (3, .int z15859), (0, .ref hX), (1, .int x1), (2, .int x2)]) hx hb dX6_ticksBack_53 hl (k := 1) rfl (by rw [ez15860]; rfl) (by decide) rfl (fun ls hl => ?_)
      refine lv_goto (tgt := 7) hx hb dX6_ticksBack_56 (by decide) ?_
      have hl := lv_sub (l' := [(4, .int z15860), (3, .int z15859), (0, .ref hX), (1, .int x1), (2, .int x2)]) hl [0, 1, 2, 3, 4] rfl
      have hP : va_P (dC, dI) vwCl [(hX, .inr (6, [.ref (xd 0), .int x_tapeLength, .ref hp, .ref hd, .ref hR0, .ref hu, .ref (xd 6), .int x_at, .int x_top, .ref hs, .ref hT, .ref (xd 11), .ref (xd 12), .ref (xd 13), .int x_lyingCount, .ref (xd 15), .int x_fewest, .ref hg, .ref (xd 18), .int x_time])), (xd 15, .inl (cyI, 6, .inl x_order)), (hp, .inr (1, [.ref (pd 0), .ref (pd 1), .ref (pd 2), .ref hf, .int p_mC, .int p_nC, .int p_kC, .int p_units, .int p_copy, .int p_loss, .int p_draw])), (hf, .inr (0, [.ref (fd 0), .ref (fd 1), .ref (fd 2), .int f_length])), (fd 0, .inl (cyI, 270, .inl f_steps)), (fd 1, .inl (cyI, 31, .inl (u15856.1 0))), (fd 2, .inl (cyI, 6, .inl (u15856.1 1))), (hs, .inr (5, [.ref (sd 0), .ref (sd 1), .ref (sd 2), .ref (sd 3), .ref (sd 4), .ref (sd 5), .ref (sd 6), .int s_size, .int s_copier, .int s_copyLeft, .int s_tick, .int s_seed, .int s_dropped]))] H := g_sub (isC := [0, 1, 2, 4, 5, 6, 7, 3]) hP rfl
      have hD : va_D A [(hX, .inr (6, [.ref (xd 0), .int x_tapeLength, .ref hp, .ref hd, .ref hR0, .ref hu, .ref (xd 6), .int x_at, .int x_top, .ref hs, .ref hT, .ref (xd 11), .ref (xd 12), .ref (xd 13), .int x_lyingCount, .ref (xd 15), .int x_fewest, .ref hg, .ref (xd 18), .int x_time])), (xd 15, .inl (cyI, 6, .inl x_order)), (hp, .inr (1, [.ref (pd 0), .ref (pd 1), .ref (pd 2), .ref hf, .int p_mC, .int p_nC, .int p_kC, .int p_units, .int p_copy, .int p_loss, .int p_draw])), (hf, .inr (0, [.ref (fd 0), .ref (fd 1), .ref (fd 2), .int f_length])), (fd 0, .inl (cyI, 270, .inl f_steps)), (fd 1, .inl (cyI, 31, .inl (u15856.1 0))), (fd 2, .inl (cyI, 6, .inl (u15856.1 1))), (hs, .inr (5, [.ref (sd 0), .ref (sd 1), .ref (sd 2), .ref (sd 3), .ref (sd 4), .ref (sd 5), .ref (sd 6), .int s_size, .int s_copier, .int s_copyLeft, .int s_tick, .int s_seed, .int s_dropped]))] := hD.sub [0, 1, 2, 4, 5, 6, 7, 3] (by decide) rfl
      apply ih15849 (f15842 := u15856.1 0) (f15843 := u15856.1 1) (v15844 := z15859) (v15845 := z15860) (H := H) (locs := locs) (ls := ls) <;> first | assumption | omega
def wo_k_X_findAnswerTimes : List Cond := [.methodLink RX6 122 yX6_scenarios, .instanceMethod yX6_scenarios, .selects RX6 yX6_scenarios yX6_scenarios, .initialized RX6, .fieldLink RX6 16 "ReplicaChain" "plan" "LReplicaChain$Plan;", .fieldLink RX6 94 "ReplicaChain$Plan" "memberCount" "I", .fieldLink RX6 73 "ReplicaChain" "answeredBehind" "[I", .methodLink RX6 130 yX6_ticksThere, .instanceMethod yX6_ticksThere, .selects RX6 yX6_ticksThere yX6_ticksThere, .methodLink RX6 134 yX6_ticksBack, .instanceMethod yX6_ticksBack, .selects RX6 yX6_ticksBack yX6_ticksBack, .constant RX6 129 1000000, .fieldLink RX6 63 "ReplicaChain" "order" "[I", .fieldLink RX6 126 "ReplicaChain$Plan" "members" "[I"]
def wq_k_X_findAnswerTimes : List Cond := .code yX6_findAnswerTimes cX6_findAnswerTimes 5 none :: (wo_k_X_findAnswerTimes ++ (wq_k_X_scenarios ++ (wq_k_X_ticksThere ++ (wq_k_X_ticksBack ++ (wsX10 ++ (wsX60 ++ []))))))
theorem gd_k_X_findAnswerTimes : Gd wq_k_X_findAnswerTimes := gd_c (gd_a (gd_o (by decide +kernel)) (gd_a gd_k_X_scenarios (gd_a gd_k_X_ticksThere (gd_a gd_k_X_ticksBack (gd_a gd_u (gd_a gd_u gd_0))))))
abbrev wc_k_X_findAnswerTimes (cyB cyI cyJ cyZ cyO : ClassId) (hX : Nat) (xd : Nat → Nat) (x_order : Nat → Int32) (x_ab : Nat → Int32) (x_tapeLength : Int32) (x_at : Int32) (x_top : Int32) (x_lyingCount : Int32) (x_fewest : Int32) (x_time : Int32) (hp : Nat) (pd : Nat → Nat) (p_members : Nat → Int32) (p_mC : Int32) (p_nC : Int32) (p_kC : Int32) (p_units : Int32) (p_copy : Int32) (p_loss : Int32) (p_draw : Int32) (hf : Nat) (fd : Nat → Nat) (f_steps : Nat → Int32) (f_stack : Nat → Int32) (f_facts : Nat → Int32) (f_length : Int32) (hs : Nat) (sd : Nat → Nat) (s_size : Int32) (s_copier : Int32) (s_copyLeft : Int32) (s_tick : Int32) (s_seed : Int32) (s_dropped : Int32) (hd : Nat) (hR0 : Nat) (hu : Nat) (hT : Nat) (hg : Nat) : va_W := [(hX, .inr (6, [.ref (xd 0), .int x_tapeLength, .ref hp, .ref hd, .ref hR0, .ref hu, .ref (xd 6), .int x_at, .int x_top, .ref hs, .ref hT, .ref (xd 11), .ref (xd 12), .ref (xd 13), .int x_lyingCount, .ref (xd 15), .int x_fewest, .ref hg, .ref (xd 18), .int x_time])), (xd 15, .inl (cyI, 6, .inl x_order)), (xd 18, .inl (cyI, 7, .inl x_ab)), (hp, .inr (1, [.ref (pd 0), .ref (pd 1), .ref (pd 2), .ref hf, .int p_mC, .int p_nC, .int p_kC, .int p_units, .int p_copy, .int p_loss, .int p_draw])), (pd 0, .inl (cyI, 6, .inl p_members)), (hf, .inr (0, [.ref (fd 0), .ref (fd 1), .ref (fd 2), .int f_length])), (fd 0, .inl (cyI, 270, .inl f_steps)), (fd 1, .inl (cyI, 31, .inl f_stack)), (fd 2, .inl (cyI, 6, .inl f_facts)), (hs, .inr (5, [.ref (sd 0), .ref (sd 1), .ref (sd 2), .ref (sd 3), .ref (sd 4), .ref (sd 5), .ref (sd 6), .int s_size, .int s_copier, .int s_copyLeft, .int s_tick, .int s_seed, .int s_dropped]))]
set_option maxHeartbeats 4000000 in
set_option maxRecDepth 100000 in
theorem k_X_findAnswerTimes (l : Launch) (dC : Nat → ClassId) (dI : Nat → Nat → Nat) (cyB cyI cyJ cyZ cyO : ClassId) (hX : Nat) (xd : Nat → Nat) (x_order : Nat → Int32) (x_ab : Nat → Int32) (x_tapeLength : Int32) (x_at : Int32) (x_top : Int32) (x_lyingCount : Int32) (x_fewest : Int32) (x_time : Int32) (hp : Nat) (pd : Nat → Nat) (p_members : Nat → Int32) (p_mC : Int32) (p_nC : Int32) (p_kC : Int32) (p_units : Int32) (p_copy : Int32) (p_loss : Int32) (p_draw : Int32) (hf : Nat) (fd : Nat → Nat) (f_steps : Nat → Int32) (f_stack : Nat → Int32) (f_facts : Nat → Int32) (f_length : Int32) (hs : Nat) (sd : Nat → Nat) (s_size : Int32) (s_copier : Int32) (s_copyLeft : Int32) (s_tick : Int32) (s_seed : Int32) (s_dropped : Int32) (hd : Nat) (hR0 : Nat) (hu : Nat) (hT : Nat) (hg : Nat) (sz : Nat) (l_x_tapeLength : 0 ≤ x_tapeLength.toInt) (u_x_tapeLength : x_tapeLength.toInt ≤ 1600) (l_x_at : 0 ≤ x_at.toInt) (u_x_at : x_at.toInt ≤ 40) (l_x_top : 0 ≤ x_top.toInt) (u_x_top : x_top.toInt ≤ 40) (l_x_lyingCount : 0 ≤ x_lyingCount.toInt) (u_x_lyingCount : x_lyingCount.toInt ≤ 6) (l_x_time : 0 ≤ x_time.toInt) (u_x_time : x_time.toInt ≤ 100000) (l_p_mC : 0 ≤ p_mC.toInt) (u_p_mC : p_mC.toInt ≤ 6) (l_p_nC : 0 ≤ p_nC.toInt) (u_p_nC : p_nC.toInt ≤ 8) (l_p_kC : 0 ≤ p_kC.toInt) (u_p_kC : p_kC.toInt ≤ 4) (l_p_draw : 0 ≤ p_draw.toInt) (u_p_draw : p_draw.toInt ≤ 999) (i0_p_members : In2 p_members 0 6 (0) (7)) (l_f_length : 0 ≤ f_length.toInt) (u_f_length : f_length.toInt ≤ 270) (l_s_size : 0 ≤ s_size.toInt) (u_s_size : s_size.toInt ≤ 6) (l_s_copier : -1 ≤ s_copier.toInt) (u_s_copier : s_copier.toInt ≤ 7) (l_s_seed : 0 ≤ s_seed.toInt) (u_s_seed : s_seed.toInt ≤ 999) : Met l yX6_findAnswerTimes wq_k_X_findAnswerTimes ({ frames := 3, cells := 0, slots := 0, locals := 77 }) (va_Pc [.ref hX] (cB (dC, dI) (kT cyB cyI cyJ cyZ cyO) (wc_k_X_findAnswerTimes cyB cyI cyJ cyZ cyO hX xd x_order x_ab x_tapeLength x_at x_top x_lyingCount x_fewest x_time hp pd p_members p_mC p_nC p_kC p_units p_copy p_loss p_draw hf fd f_steps f_stack f_facts f_length hs sd s_size s_copier s_copyLeft s_tick s_seed s_dropped hd hR0 hu hT hg) sz)) (va_Qv (fun (u : ST4) => True) (fun (u : ST4) t => cE (dC, dI) (va_A (wc_k_X_findAnswerTimes cyB cyI cyJ cyZ cyO hX xd x_order x_ab x_tapeLength x_at x_top x_lyingCount x_fewest x_time hp pd p_members p_mC p_nC p_kC p_units p_copy p_loss p_draw hf fd f_steps f_stack f_facts f_length hs sd s_size s_copier s_copyLeft s_tick s_seed s_dropped hd hR0 hu hT hg) sz) ([(hX, .inr (6, [.ref (xd 0), .int x_tapeLength, .ref hp, .ref hd, .ref hR0, .ref hu, .ref (xd 6), .int x_at, .int x_top, .ref hs, .ref hT, .ref (xd 11), .ref (xd 12), .ref (xd 13), .int x_lyingCount, .ref (xd 15), .int x_fewest, .ref hg, .ref (xd 18), .int x_time])), (xd 15, .inl (cyI, 6, .inl (u.1 0))), (xd 18, .inl (cyI, 7, .inl (u.1 1))), (hp, .inr (1, [.ref (pd 0), .ref (pd 1), .ref (pd 2), .ref hf, .int p_mC, .int p_nC, .int p_kC, .int p_units, .int p_copy, .int p_loss, .int p_draw])), (pd 0, .inl (cyI, 6, .inl p_members)), (hf, .inr (0, [.ref (fd 0), .ref (fd 1), .ref (fd 2), .int f_length])), (fd 0, .inl (cyI, 270, .inl f_steps)), (fd 1, .inl (cyI, 31, .inl (u.1 2))), (fd 2, .inl (cyI, 6, .inl (u.1 3))), (hs, .inr (5, [.ref (sd 0), .ref (sd 1), .ref (sd 2), .ref (sd 3), .ref (sd 4), .ref (sd 5), .ref (sd 6), .int s_size, .int s_copier, .int s_copyLeft, .int s_tick, .int s_seed, .int s_dropped]))]) t.heap) (va_A (wc_k_X_findAnswerTimes cyB cyI cyJ cyZ cyO hX xd x_order x_ab x_tapeLength x_at x_top x_lyingCount x_fewest x_time hp pd p_members p_mC p_nC p_kC p_units p_copy p_loss p_draw hf fd f_steps f_stack f_facts f_length hs sd s_size s_copier s_copyLeft s_tick s_seed s_dropped hd hR0 hu hT hg) sz)) 0 0 (va_A (wc_k_X_findAnswerTimes cyB cyI cyJ cyZ cyO hX xd x_order x_ab x_tapeLength x_at x_top x_lyingCount x_fewest x_time hp pd p_members p_mC p_nC p_kC p_units p_copy p_loss p_draw hf fd f_steps f_stack f_facts f_length hs sd s_size s_copier s_copyLeft s_tick s_seed s_dropped hd hR0 hu hT hg) sz) := by
  refine Met.ofW (cc := cX6_findAnswerTimes) (maxL := 5) (ret := none) (by decide) rfl ?_
  intro p e s m args below meth c s₁ B hml hv
  obtain ⟨rfl, hsz, hP, hKN, hD0⟩ := hv
  have hx := B.exec
  have hb := B.bytes
  have hr := B.returns
  have hts := atoms_spec (ws := wq_k_X_findAnswerTimes) B.pre
  have hown : s.vm.findClass RX6 = some m.cls := findClass_of_methodNamed B.named
  have hlocks := B.notSynchronized
  have hK := hKN.1
  have hfix : CallFix p m c cX6_findAnswerTimes 5 s [.ref hX].toArray wq_k_X_findAnswerTimes RX6 := ⟨hx, hb, hml, hown, hts⟩
  have hi1 : ∀ w ∈ wsX10, w ∈ wq_k_X_findAnswerTimes := (sb_c (sb_r (sb_r (sb_r sb_l))))
  have hi6 : ∀ w ∈ wsX60, w ∈ wq_k_X_findAnswerTimes := (sb_c (sb_r (sb_r (sb_r (sb_r sb_l)))))
  subst hsz
  have hD := hD0.self (sz := s.heap.size)
  generalize hAe : va_A (wc_k_X_findAnswerTimes cyB cyI cyJ cyZ cyO hX xd x_order x_ab x_tapeLength x_at x_top x_lyingCount x_fewest x_time hp pd p_members p_mC p_nC p_kC p_units p_copy p_loss p_draw hf fd f_steps f_stack f_facts f_length hs sd s_size s_copier s_copyLeft s_tick s_seed s_dropped hd hR0 hu hT hg) s.heap.size = A at hD ⊢
  have hA : ∀ q : Nat, s.heap.size ≤ q → A q := fun q h => by rw [← hAe]; exact Or.inr h
  have hS : va_S A s.heap s.heap [] := va_S.rf
  have hl := lv_entry ([.ref hX]) (n := 5) (Nat.le_of_ble_eq_true rfl)
  rw [lg_entry_eq]
  generalize (lg_sl ([.ref hX]) ++ List.replicate (5 - (lg_sl ([.ref hX])).length) Slot.unset).toArray = ls at hl ⊢
  have hl : lv_has ls 5 [(0, .ref hX)] := hl
  have ck0 : (0 : Int32).toInt = 0 := by decide
  refine lv_iconst (v := 0) hx hb dX6_findAnswerTimes_0 (by decide) ?_
  refine lv_istore_n (lv' := [(1, .int 0), (0, .ref hX)]) hx hb dX6_findAnswerTimes_1 rfl hl (by decide) rfl (fun ls hl => ?_)
  refine w_gen (fun H locs ls hP hS hl => ?_) hP hS hl
  obtain ⟨f16787, f16788, f16789, f16790, v16791, hl2, hP2, hD2, b16792, b16793⟩ : ∃ (f16787 : Nat → Int32) (f16788 : Nat → Int32) (f16789 : Nat → Int32) (f16790 : Nat → Int32) (v16791 : Int32), lv_has ls 5 [(1, .int v16791), (0, .ref hX)] ∧ va_P (dC, dI) vwCl [(hX, .inr (6, [.ref (xd 0), .int x_tapeLength, .ref hp, .ref hd, .ref hR0, .ref hu, .ref (xd 6), .int x_at, .int x_top, .ref hs, .ref hT, .ref (xd 11), .ref (xd 12), .ref (xd 13), .int x_lyingCount, .ref (xd 15), .int x_fewest, .ref hg, .ref (xd 18), .int x_time])), (xd 15, .inl (cyI, 6, .inl f16789)), (xd 18, .inl (cyI, 7, .inl f16790)), (hp, .inr (1, [.ref (pd 0), .ref (pd 1), .ref (pd 2), .ref hf, .int p_mC, .int p_nC, .int p_kC, .int p_units, .int p_copy, .int p_loss, .int p_draw])), (pd 0, .inl (cyI, 6, .inl p_members)), (hf, .inr (0, [.ref (fd 0), .ref (fd 1), .ref (fd 2), .int f_length])), (fd 0, .inl (cyI, 270, .inl f_steps)), (fd 1, .inl (cyI, 31, .inl f16787)), (fd 2, .inl (cyI, 6, .inl f16788)), (hs, .inr (5, [.ref (sd 0), .ref (sd 1), .ref (sd 2), .ref (sd 3), .ref (sd 4), .ref (sd 5), .ref (sd 6), .int s_size, .int s_copier, .int s_copyLeft, .int s_tick, .int s_seed, .int s_dropped]))] H ∧ va_D A [(hX, .inr (6, [.ref (xd 0), .int x_tapeLength, .ref hp, .ref hd, .ref hR0, .ref hu, .ref (xd 6), .int x_at, .int x_top, .ref hs, .ref hT, .ref (xd 11), .ref (xd 12), .ref (xd 13), .int x_lyingCount, .ref (xd 15), .int x_fewest, .ref hg, .ref (xd 18), .int x_time])), (xd 15, .inl (cyI, 6, .inl f16789)), (xd 18, .inl (cyI, 7, .inl f16790)), (hp, .inr (1, [.ref (pd 0), .ref (pd 1), .ref (pd 2), .ref hf, .int p_mC, .int p_nC, .int p_kC, .int p_units, .int p_copy, .int p_loss, .int p_draw])), (pd 0, .inl (cyI, 6, .inl p_members)), (hf, .inr (0, [.ref (fd 0), .ref (fd 1), .ref (fd 2), .int f_length])), (fd 0, .inl (cyI, 270, .inl f_steps)), (fd 1, .inl (cyI, 31, .inl f16787)), (fd 2, .inl (cyI, 6, .inl f16788)), (hs, .inr (5, [.ref (sd 0), .ref (sd 1), .ref (sd 2), .ref (sd 3), .ref (sd 4), .ref (sd 5), .ref (sd 6), .int s_size, .int s_copier, .int s_copyLeft, .int s_tick, .int s_seed, .int s_dropped]))] ∧ (0 ≤ v16791.toInt) ∧ (v16791.toInt ≤ 7) := ⟨f_stack, f_facts, x_order, x_ab, (0 : Int32), hl, hP, hD, by first | assumption | omega, by first | assumption | omega⟩
  clear hP hl
  have hP := hP2
  have hD := hD2
  have hl := hl2
  clear hP2 hD2 hl2
  obtain ⟨n16794, hn16794⟩ : ∃ n : Nat, 7 - v16791.toInt < (n : Int) := ⟨(7 - v16791.toInt).toNat + 1, by omega⟩
  induction n16794 generalizing f16787 f16788 f16789 f16790 v16791 H locs ls with
  | zero => exfalso; omega
  | succ n16794 ih16795 =>
    refine lv_iload_n hx hb dX6_findAnswerTimes_2 rfl (lv_at hl 0 rfl) ?_
    refine lv_aload_n hx hb dX6_findAnswerTimes_3 rfl (lv_at hl 1 rfl) ?_
    refine gf_i (wr := [(xd 15, .inl (cyI, 6, .inl f16789)), (xd 18, .inl (cyI, 7, .inl f16790)), (pd 0, .inl (cyI, 6, .inl p_members)), (hf, .inr (0, [.ref (fd 0), .ref (fd 1), .ref (fd 2), .int f_length])), (fd 0, .inl (cyI, 270, .inl f_steps)), (fd 1, .inl (cyI, 31, .inl f16787)), (fd 2, .inl (cyI, 6, .inl f16788)), (hs, .inr (5, [.ref (sd 0), .ref (sd 1), .ref (sd 2), .ref (sd 3), .ref (sd 4), .ref (sd 5), .ref (sd 6), .int s_size, .int s_copier, .int s_copyLeft, .int s_tick, .int s_seed, .int s_dropped]))]) (va_runV (As := []) (rest := [.int v16791]) hfix (k_X_scenarios l dC dI cyB cyI cyJ cyZ cyO hX xd x_tapeLength x_at x_top x_lyingCount x_fewest x_time hp pd p_mC p_nC p_kC p_units p_copy p_loss p_draw hd hR0 hu hs hT hg hf _ (by first | omega | assumption) (by first | omega | assumption) (by first | omega | assumption) (by first | omega | assumption) (by first | omega | assumption) (by first | omega | assumption) (by first | omega | assumption) (by first | omega | assumption) (by first | omega | assumption) (by first | omega | assumption) (by first | omega | assumption) (by first | omega | assumption) (by first | omega | assumption) (by first | omega | assumption) (by first | omega | assumption) (by first | omega | assumption) (by first | omega | assumption) (by first | omega | assumption)) (cwV 0 hts (gi_V (ow_m (k := 0) rfl) (ow_m (k := 1) rfl) (ow_m (k := 2) rfl) (ow_m (k := 3) rfl) (sb_c sb_l) gd_k_X_scenarios) rfl rfl rfl (by decide +kernel) ⟨Nat.le_of_ble_eq_true rfl, Nat.le_of_ble_eq_true rfl⟩) (g_preV hKN hP hD [0, 3] rfl (by decide) 0 6 rfl rfl) rfl rfl hl.1 rfl (lv_room (Nat.le_of_ble_eq_true rfl)) dX6_findAnswerTimes_4 ⟨Nat.le_of_ble_eq_true rfl, Nat.le_of_ble_eq_true rfl⟩) hP hD hS hA [0, 3] [1, 2, 4, 5, 6, 7, 8, 9] rfl rfl (by decide) (by decide) (fun r16796 u16797 H locs qu16797 hP hD hS => ?_)
    obtain ⟨b16798, b16799⟩ := qu16797
    have hP : va_P (dC, dI) vwCl [(xd 15, .inl (cyI, 6, .inl f16789)), (xd 18, .inl (cyI, 7, .inl f16790)), (pd 0, .inl (cyI, 6, .inl p_members)), (hf, .inr (0, [.ref (fd 0), .ref (fd 1), .ref (fd 2), .int f_length])), (fd 0, .inl (cyI, 270, .inl f_steps)), (fd 1, .inl (cyI, 31, .inl f16787)), (fd 2, .inl (cyI, 6, .inl f16788)), (hs, .inr (5, [.ref (sd 0), .ref (sd 1), .ref (sd 2), .ref (sd 3), .ref (sd 4), .ref (sd 5), .ref (sd 6), .int s_size, .int s_copier, .int s_copyLeft, .int s_tick, .int s_seed, .int s_dropped])), (hX, .inr (6, [.ref (xd 0), .int x_tapeLength, .ref hp, .ref hd, .ref hR0, .ref hu, .ref (xd 6), .int x_at, .int x_top, .ref hs, .ref hT, .ref (xd 11), .ref (xd 12), .ref (xd 13), .int x_lyingCount, .ref (xd 15), .int x_fewest, .ref hg, .ref (xd 18), .int x_time])), (hp, .inr (1, [.ref (pd 0), .ref (pd 1), .ref (pd 2), .ref hf, .int p_mC, .int p_nC, .int p_kC, .int p_units, .int p_copy, .int p_loss, .int p_draw]))] H := hP
    have hD : va_D A [(xd 15, .inl (cyI, 6, .inl f16789)), (xd 18, .inl (cyI, 7, .inl f16790)), (pd 0, .inl (cyI, 6, .inl p_members)), (hf, .inr (0, [.ref (fd 0), .ref (fd 1), .ref (fd 2), .int f_length])), (fd 0, .inl (cyI, 270, .inl f_steps)), (fd 1, .inl (cyI, 31, .inl f16787)), (fd 2, .inl (cyI, 6, .inl f16788)), (hs, .inr (5, [.ref (sd 0), .ref (sd 1), .ref (sd 2), .ref (sd 3), .ref (sd 4), .ref (sd 5), .ref (sd 6), .int s_size, .int s_copier, .int s_copyLeft, .int s_tick, .int s_seed, .int s_dropped])), (hX, .inr (6, [.ref (xd 0), .int x_tapeLength, .ref hp, .ref hd, .ref hR0, .ref hu, .ref (xd 6), .int x_at, .int x_top, .ref hs, .ref hT, .ref (xd 11), .ref (xd 12), .ref (xd 13), .int x_lyingCount, .ref (xd 15), .int x_fewest, .ref hg, .ref (xd 18), .int x_time])), (hp, .inr (1, [.ref (pd 0), .ref (pd 1), .ref (pd 2), .ref hf, .int p_mC, .int p_nC, .int p_kC, .int p_units, .int p_copy, .int p_loss, .int p_draw]))] := hD
    refine lv_icmp_ge (tgt := 93) hx hb dX6_findAnswerTimes_7 (by decide) (fun c16800 => ?_) (fun c16800 => ?_)
    · have c16800 := i_le (a := r16796.toInt) (b := v16791.toInt) c16800 rfl rfl
      exact W.vret hx hb hr (fun t ht hW => ⟨⟨((fun k => match k with | 0 => f16789 | 1 => f16790 | 2 => f16787 | _ => f16788), (fun _ => 0), (fun _ => 0), (fun _ => fun _ => 0)), rfl, trivial, cE.of ht hP hD [8, 0, 1, 9, 2, 3, 4, 5, 6, 7] (by decide) rfl⟩, hS.F ht⟩) hS.2.2 dX6_findAnswerTimes_93
    · have c16800 := i_nle (a := r16796.toInt) (b := v16791.toInt) c16800 rfl rfl
      refine lv_iload_n hx hb dX6_findAnswerTimes_10 rfl (lv_at hl 0 rfl) ?_
      refine lv_iconst (v := 1) hx hb dX6_findAnswerTimes_11 (by decide) ?_
      refine lv_isub hx hb dX6_findAnswerTimes_12 ?_
      refine lv_topi (fun z16801 ez16801 => ?_)
      have tz16801 := ti_sub (a := v16791.toInt) (b := 1) ez16801 rfl (by decide) (by omega) (by omega)
      refine lv_istore_n (lv' := [(2, .int z16801), (1, .int v16791), (0, .ref hX)]) hx hb dX6_findAnswerTimes_13 rfl hl (by decide) rfl (fun ls hl => ?_)
      refine lv_iconst (v := 0) hx hb dX6_findAnswerTimes_14 (by decide) ?_
      refine lv_istore_n (lv' := [(3, .int 0), (2, .int z16801), (1, .int v16791), (0, .ref hX)]) hx hb dX6_findAnswerTimes_15 rfl hl (by decide) rfl (fun ls hl => ?_)
      refine lv_iconst (v := 0) hx hb dX6_findAnswerTimes_16 (by decide) ?_
      refine lv_istore (lv' := [(4, .int 0), (3, .int 0), (2, .int z16801), (1, .int v16791), (0, .ref hX)]) hx hb dX6_findAnswerTimes_17 hl (by decide) rfl (fun ls hl => ?_)
      refine w_gen (fun H locs ls hP hS hl => ?_) hP hS hl
      obtain ⟨f16802, v16803, v16804, hl2, hP2, hD2, b16805, b16806, b16807, b16808, b16809⟩ : ∃ (f16802 : Nat → Int32) (v16803 : Int32) (v16804 : Int32), lv_has ls 5 [(4, .int v16804), (3, .int v16803), (2, .int z16801), (1, .int v16791), (0, .ref hX)] ∧ va_P (dC, dI) vwCl [(xd 15, .inl (cyI, 6, .inl f16802)), (xd 18, .inl (cyI, 7, .inl f16790)), (pd 0, .inl (cyI, 6, .inl p_members)), (hf, .inr (0, [.ref (fd 0), .ref (fd 1), .ref (fd 2), .int f_length])), (fd 0, .inl (cyI, 270, .inl f_steps)), (fd 1, .inl (cyI, 31, .inl f16787)), (fd 2, .inl (cyI, 6, .inl f16788)), (hs, .inr (5, [.ref (sd 0), .ref (sd 1), .ref (sd 2), .ref (sd 3), .ref (sd 4), .ref (sd 5), .ref (sd 6), .int s_size, .int s_copier, .int s_copyLeft, .int s_tick, .int s_seed, .int s_dropped])), (hX, .inr (6, [.ref (xd 0), .int x_tapeLength, .ref hp, .ref hd, .ref hR0, .ref hu, .ref (xd 6), .int x_at, .int x_top, .ref hs, .ref hT, .ref (xd 11), .ref (xd 12), .ref (xd 13), .int x_lyingCount, .ref (xd 15), .int x_fewest, .ref hg, .ref (xd 18), .int x_time])), (hp, .inr (1, [.ref (pd 0), .ref (pd 1), .ref (pd 2), .ref hf, .int p_mC, .int p_nC, .int p_kC, .int p_units, .int p_copy, .int p_loss, .int p_draw]))] H ∧ va_D A [(xd 15, .inl (cyI, 6, .inl f16802)), (xd 18, .inl (cyI, 7, .inl f16790)), (pd 0, .inl (cyI, 6, .inl p_members)), (hf, .inr (0, [.ref (fd 0), .ref (fd 1), .ref (fd 2), .int f_length])), (fd 0, .inl (cyI, 270, .inl f_steps)), (fd 1, .inl (cyI, 31, .inl f16787)), (fd 2, .inl (cyI, 6, .inl f16788)), (hs, .inr (5, [.ref (sd 0), .ref (sd 1), .ref (sd 2), .ref (sd 3), .ref (sd 4), .ref (sd 5), .ref (sd 6), .int s_size, .int s_copier, .int s_copyLeft, .int s_tick, .int s_seed, .int s_dropped])), (hX, .inr (6, [.ref (xd 0), .int x_tapeLength, .ref hp, .ref hd, .ref hR0, .ref hu, .ref (xd 6), .int x_at, .int x_top, .ref hs, .ref hT, .ref (xd 11), .ref (xd 12), .ref (xd 13), .int x_lyingCount, .ref (xd 15), .int x_fewest, .ref hg, .ref (xd 18), .int x_time])), (hp, .inr (1, [.ref (pd 0), .ref (pd 1), .ref (pd 2), .ref hf, .int p_mC, .int p_nC, .int p_kC, .int p_units, .int p_copy, .int p_loss, .int p_draw]))] ∧ (0 ≤ v16803.toInt) ∧ (v16803.toInt ≤ 6) ∧ (0 ≤ v16804.toInt) ∧ (v16804.toInt ≤ 6) ∧ (v16803.toInt ≤ v16804.toInt) := ⟨f16789, (0 : Int32), (0 : Int32), hl, hP, hD, by first | assumption | omega, by first | assumption | omega, by first | assumption | omega, by first | assumption | omega, by first | assumption | omega⟩
      clear hP hl
      have hP := hP2
      have hD := hD2
      have hl := hl2
      clear hP2 hD2 hl2
      obtain ⟨n16810, hn16810⟩ : ∃ n : Nat, 6 - v16804.toInt < (n : Int) := ⟨(6 - v16804.toInt).toNat + 1, by omega⟩
      induction n16810 generalizing f16802 v16803 v16804 H locs ls with
      | zero => exfalso; omega
      | succ n16810 ih16811 =>
        refine lv_iload hx hb dX6_findAnswerTimes_19 (lv_at hl 0 rfl) ?_
        refine lv_aload_n hx hb dX6_findAnswerTimes_21 rfl (lv_at hl 4 rfl) ?_
        refine va_get (D := (dC, dI)) (ci := 6) (v := .ref hp) (C := RX6) (T := TX6) (N := 20) hx hb hts hi6 hown hK hP 8 rfl rfl 2 (by decide) (hts _ (ow_m (k := 4) rfl)) (fun _ h9 => h9) rfl dX6_findAnswerTimes_22 ?_
        refine va_get (D := (dC, dI)) (ci := 1) (v := .int p_mC) (C := RX1) (T := TX1) (N := 11) hx hb hts hi1 hown hK hP 9 rfl rfl 4 (by decide) (hts _ (ow_m (k := 5) rfl)) (fun _ h9 => h9) rfl dX6_findAnswerTimes_25 ?_
        refine lv_icmp_ge (tgt := 62) hx hb dX6_findAnswerTimes_28 (by decide) (fun c16812 => ?_) (fun c16812 => ?_)
        · have c16812 := i_le (a := p_mC.toInt) (b := v16804.toInt) c16812 rfl rfl
          refine lv_aload_n hx hb dX6_findAnswerTimes_62 rfl (lv_at hl 4 rfl) ?_
          refine va_get (D := (dC, dI)) (ci := 6) (v := .ref (xd 18)) (C := RX6) (T := TX6) (N := 20) hx hb hts hi6 hown hK hP 8 rfl rfl 18 (by decide) (hts _ (ow_m (k := 6) rfl)) (fun _ h9 => h9) rfl dX6_findAnswerTimes_63 ?_
          refine lv_iload_n hx hb dX6_findAnswerTimes_66 rfl (lv_at hl 3 rfl) ?_
          refine lv_iload_n hx hb dX6_findAnswerTimes_67 rfl (lv_at hl 2 rfl) ?_
          refine lv_if_ne (tgt := 76) hx hb dX6_findAnswerTimes_68 (by decide) (fun c16813 => ?_) (fun c16813 => ?_)
          · have c16813 := i_ne (a := z16801.toInt) (b := 0) c16813 rfl (by decide)
            refine lv_aload_n hx hb dX6_findAnswerTimes_76 rfl (lv_at hl 4 rfl) ?_
            refine lv_iload_n hx hb dX6_findAnswerTimes_77 rfl (lv_at hl 1 rfl) ?_
            refine lv_aload_n hx hb dX6_findAnswerTimes_78 rfl (lv_at hl 4 rfl) ?_
            refine lv_iload_n hx hb dX6_findAnswerTimes_79 rfl (lv_at hl 1 rfl) ?_
            refine gf_i (wr := [(xd 18, .inl (cyI, 7, .inl f16790)), (pd 0, .inl (cyI, 6, .inl p_members))]) (va_runV (As := [.int v16803]) (rest := [.int v16803, .ref hX, .int v16791, .ref (xd 18)]) hfix (k_X_ticksThere l dC dI cyB cyI cyJ cyZ cyO hX xd f16802 x_tapeLength x_at x_top x_lyingCount x_fewest x_time hp pd p_mC p_nC p_kC p_units p_copy p_loss p_draw hf fd f_steps f16787 f16788 f_length hs sd s_size s_copier s_copyLeft s_tick s_seed s_dropped v16803 hd hR0 hu hT hg _ (by first | omega | assumption) (by first | omega | assumption) (by first | omega | assumption) (by first | omega | assumption) (by first | omega | assumption) (by first | omega | assumption) (by first | omega | assumption) (by first | omega | assumption) (by first | omega | assumption) (by first | omega | assumption) (by first | omega | assumption) (by first | omega | assumption) (by first | omega | assumption) (by first | omega | assumption) (by first | omega | assumption) (by first | omega | assumption) (by first | omega | assumption) (by first | omega | assumption) (by first | omega | assumption) (by first | omega | assumption) (by first | omega | assumption) (by first | omega | assumption) (by first | omega | assumption) (by first | omega | assumption) (by first | omega | assumption) (by first | omega | assumption) (by first | omega | assumption) (by first | omega | assumption)) (cwV 1 hts (gi_V (ow_m (k := 7) rfl) (ow_m (k := 8) rfl) (ow_m (k := 9) rfl) (ow_m (k := 3) rfl) (sb_c (sb_r sb_l)) gd_k_X_ticksThere) rfl rfl rfl (by decide +kernel) ⟨Nat.le_of_ble_eq_true rfl, Nat.le_of_ble_eq_true rfl⟩) (g_preV hKN hP hD [8, 0, 9, 3, 4, 5, 6, 7] rfl (by decide) 0 6 rfl rfl) rfl rfl hl.1 rfl (lv_room (Nat.le_of_ble_eq_true rfl)) dX6_findAnswerTimes_80 ⟨Nat.le_of_ble_eq_true rfl, Nat.le_of_ble_eq_true rfl⟩) hP hD hS hA [8, 0, 9, 3, 4, 5, 6, 7] [1, 2] rfl rfl (by decide) (by decide) (fun r16814 u16815 H locs qu16815 hP hD hS => ?_)
            have hP : va_P (dC, dI) vwCl [(xd 18, .inl (cyI, 7, .inl f16790)), (pd 0, .inl (cyI, 6, .inl p_members)), (hX, .inr (6, [.ref (xd 0), .int x_tapeLength, .ref hp, .ref hd, .ref hR0, .ref hu, .ref (xd 6), .int x_at, .int x_top, .ref hs, .ref hT, .ref (xd 11), .ref (xd 12), .ref (xd 13), .int x_lyingCount, .ref (xd 15), .int x_fewest, .ref hg, .ref (xd 18), .int x_time])), (xd 15, .inl (cyI, 6, .inl f16802)), (hp, .inr (1, [.ref (pd 0), .ref (pd 1), .ref (pd 2), .ref hf, .int p_mC, .int p_nC, .int p_kC, .int p_units, .int p_copy, .int p_loss, .int p_draw])), (hf, .inr (0, [.ref (fd 0), .ref (fd 1), .ref (fd 2), .int f_length])), (fd 0, .inl (cyI, 270, .inl f_steps)), (fd 1, .inl (cyI, 31, .inl (u16815.1 0))), (fd 2, .inl (cyI, 6, .inl (u16815.1 1))), (hs, .inr (5, [.ref (sd 0), .ref (sd 1), .ref (sd 2), .ref (sd 3), .ref (sd 4), .ref (sd 5), .ref (sd 6), .int s_size, .int s_copier, .int s_copyLeft, .int s_tick, .int s_seed, .int s_dropped]))] H := hP
            have hD : va_D A [(xd 18, .inl (cyI, 7, .inl f16790)), (pd 0, .inl (cyI, 6, .inl p_members)), (hX, .inr (6, [.ref (xd 0), .int x_tapeLength, .ref hp, .ref hd, .ref hR0, .ref hu, .ref (xd 6), .int x_at, .int x_top, .ref hs, .ref hT, .ref (xd 11), .ref (xd 12), .ref (xd 13), .int x_lyingCount, .ref (xd 15), .int x_fewest, .ref hg, .ref (xd 18), .int x_time])), (xd 15, .inl (cyI, 6, .inl f16802)), (hp, .inr (1, [.ref (pd 0), .ref (pd 1), .ref (pd 2), .ref hf, .int p_mC, .int p_nC, .int p_kC, .int p_units, .int p_copy, .int p_loss, .int p_draw])), (hf, .inr (0, [.ref (fd 0), .ref (fd 1), .ref (fd 2), .int f_length])), (fd 0, .inl (cyI, 270, .inl f_steps)), (fd 1, .inl (cyI, 31, .inl (u16815.1 0))), (fd 2, .inl (cyI, 6, .inl (u16815.1 1))), (hs, .inr (5, [.ref (sd 0), .ref (sd 1), .ref (sd 2), .ref (sd 3), .ref (sd 4), .ref (sd 5), .ref (sd 6), .int s_size, .int s_copier, .int s_copyLeft, .int s_tick, .int s_seed, .int s_dropped]))] := hD
            refine gf_i (wr := [(xd 18, .inl (cyI, 7, .inl f16790)), (pd 0, .inl (cyI, 6, .inl p_members))]) (va_runV (As := [.int v16803, .int r16814]) (rest := [.int v16791, .ref (xd 18)]) hfix (k_X_ticksBack l dC dI cyB cyI cyJ cyZ cyO hX xd f16802 x_tapeLength x_at x_top x_lyingCount x_fewest x_time hp pd p_mC p_nC p_kC p_units p_copy p_loss p_draw hf fd f_steps (u16815.1 0) (u16815.1 1) f_length hs sd s_size s_copier s_copyLeft s_tick s_seed s_dropped v16803 r16814 hd hR0 hu hT hg _ (by first | omega | assumption) (by first | omega | assumption) (by first | omega | assumption) (by first | omega | assumption) (by first | omega | assumption) (by first | omega | assumption) (by first | omega | assumption) (by first | omega | assumption) (by first | omega | assumption) (by first | omega | assumption) (by first | omega | assumption) (by first | omega | assumption) (by first | omega | assumption) (by first | omega | assumption) (by first | omega | assumption) (by first | omega | assumption) (by first | omega | assumption) (by first | omega | assumption) (by first | omega | assumption) (by first | omega | assumption) (by first | omega | assumption) (by first | omega | assumption) (by first | omega | assumption) (by first | omega | assumption) (by first | omega | assumption) (by first | omega | assumption) (by first | omega | assumption) (by first | omega | assumption)) (cwV 2 hts (gi_V (ow_m (k := 10) rfl) (ow_m (k := 11) rfl) (ow_m (k := 12) rfl) (ow_m (k := 3) rfl) (sb_c (sb_r (sb_r sb_l))) gd_k_X_ticksBack) rfl rfl rfl (by decide +kernel) ⟨Nat.le_of_ble_eq_true rfl, Nat.le_of_ble_eq_true rfl⟩) (g_preV hKN hP hD [2, 3, 4, 5, 6, 7, 8, 9] rfl (by decide) 0 6 rfl rfl) rfl rfl hl.1 rfl (lv_room (Nat.le_of_ble_eq_true rfl)) dX6_findAnswerTimes_83 ⟨Nat.le_of_ble_eq_true rfl, Nat.le_of_ble_eq_true rfl⟩) hP hD hS hA [2, 3, 4, 5, 6, 7, 8, 9] [0, 1] rfl rfl (by decide) (by decide) (fun r16816 u16817 H locs qu16817 hP hD hS => ?_)
            have hP : va_P (dC, dI) vwCl [(xd 18, .inl (cyI, 7, .inl f16790)), (pd 0, .inl (cyI, 6, .inl p_members)), (hX, .inr (6, [.ref (xd 0), .int x_tapeLength, .ref hp, .ref hd, .ref hR0, .ref hu, .ref (xd 6), .int x_at, .int x_top, .ref hs, .ref hT, .ref (xd 11), .ref (xd 12), .ref (xd 13), .int x_lyingCount, .ref (xd 15), .int x_fewest, .ref hg, .ref (xd 18), .int x_time])), (xd 15, .inl (cyI, 6, .inl f16802)), (hp, .inr (1, [.ref (pd 0), .ref (pd 1), .ref (pd 2), .ref hf, .int p_mC, .int p_nC, .int p_kC, .int p_units, .int p_copy, .int p_loss, .int p_draw])), (hf, .inr (0, [.ref (fd 0), .ref (fd 1), .ref (fd 2), .int f_length])), (fd 0, .inl (cyI, 270, .inl f_steps)), (fd 1, .inl (cyI, 31, .inl (u16817.1 0))), (fd 2, .inl (cyI, 6, .inl (u16817.1 1))), (hs, .inr (5, [.ref (sd 0), .ref (sd 1), .ref (sd 2), .ref (sd 3), .ref (sd 4), .ref (sd 5), .ref (sd 6), .int s_size, .int s_copier, .int s_copyLeft, .int s_tick, .int s_seed, .int s_dropped]))] H := hP
            have hD : va_D A [(xd 18, .inl (cyI, 7, .inl f16790)), (pd 0, .inl (cyI, 6, .inl p_members)), (hX, .inr (6, [.ref (xd 0), .int x_tapeLength, .ref hp, .ref hd, .ref hR0, .ref hu, .ref (xd 6), .int x_at, .int x_top, .ref hs, .ref hT, .ref (xd 11), .ref (xd 12), .ref (xd 13), .int x_lyingCount, .ref (xd 15), .int x_fewest, .ref hg, .ref (xd 18), .int x_time])), (xd 15, .inl (cyI, 6, .inl f16802)), (hp, .inr (1, [.ref (pd 0), .ref (pd 1), .ref (pd 2), .ref hf, .int p_mC, .int p_nC, .int p_kC, .int p_units, .int p_copy, .int p_loss, .int p_draw])), (hf, .inr (0, [.ref (fd 0), .ref (fd 1), .ref (fd 2), .int f_length])), (fd 0, .inl (cyI, 270, .inl f_steps)), (fd 1, .inl (cyI, 31, .inl (u16817.1 0))), (fd 2, .inl (cyI, 6, .inl (u16817.1 1))), (hs, .inr (5, [.ref (sd 0), .ref (sd 1), .ref (sd 2), .ref (sd 3), .ref (sd 4), .ref (sd 5), .ref (sd 6), .int s_size, .int s_copier, .int s_copyLeft, .int s_tick, .int s_seed, .int s_dropped]))] := hD
            refine va_iast hx hb hK hP hD hS 0 1 rfl rfl (vp_i rfl (by omega) (by omega)) dX6_findAnswerTimes_86 (fun H locs hP hD hS => ?_)
            have hP : va_P (dC, dI) vwCl [(xd 18, .inl (cyI, 7, .inl (upd f16790 v16791.toNatClampNeg r16816))), (pd 0, .inl (cyI, 6, .inl p_members)), (hX, .inr (6, [.ref (xd 0), .int x_tapeLength, .ref hp, .ref hd, .ref hR0, .ref hu, .ref (xd 6), .int x_at, .int x_top, .ref hs, .ref hT, .ref (xd 11), .ref (xd 12), .ref (xd 13), .int x_lyingCount, .ref (xd 15), .int x_fewest, .ref hg, .ref (xd 18), .int x_time])), (xd 15, .inl (cyI, 6, .inl f16802)), (hp, .inr (1, [.ref (pd 0), .ref (pd 1), .ref (pd 2), .ref hf, .int p_mC, .int p_nC, .int p_kC, .int p_units, .int p_copy, .int p_loss, .int p_draw])), (hf, .inr (0, [.ref (fd 0), .ref (fd 1), .ref (fd 2), .int f_length])), (fd 0, .inl (cyI, 270, .inl f_steps)), (fd 1, .inl (cyI, 31, .inl (u16817.1 0))), (fd 2, .inl (cyI, 6, .inl (u16817.1 1))), (hs, .inr (5, [.ref (sd 0), .ref (sd 1), .ref (sd 2), .ref (sd 3), .ref (sd 4), .ref (sd 5), .ref (sd 6), .int s_size, .int s_copier, .int s_copyLeft, .int s_tick, .int s_seed, .int s_dropped]))] H := hP
            have hD : va_D A [(xd 18, .inl (cyI, 7, .inl (upd f16790 v16791.toNatClampNeg r16816))), (pd 0, .inl (cyI, 6, .inl p_members)), (hX, .inr (6, [.ref (xd 0), .int x_tapeLength, .ref hp, .ref hd, .ref hR0, .ref hu, .ref (xd 6), .int x_at, .int x_top, .ref hs, .ref hT, .ref (xd 11), .ref (xd 12), .ref (xd 13), .int x_lyingCount, .ref (xd 15), .int x_fewest, .ref hg, .ref (xd 18), .int x_time])), (xd 15, .inl (cyI, 6, .inl f16802)), (hp, .inr (1, [.ref (pd 0), .ref (pd 1), .ref (pd 2), .ref hf, .int p_mC, .int p_nC, .int p_kC, .int p_units, .int p_copy, .int p_loss, .int p_draw])), (hf, .inr (0, [.ref (fd 0), .ref (fd 1), .ref (fd 2), .int f_length])), (fd 0, .inl (cyI, 270, .inl f_steps)), (fd 1, .inl (cyI, 31, .inl (u16817.1 0))), (fd 2, .inl (cyI, 6, .inl (u16817.1 1))), (hs, .inr (5, [.ref (sd 0), .ref (sd 1), .ref (sd 2), .ref (sd 3), .ref (sd 4), .ref (sd 5), .ref (sd 6), .int s_size, .int s_copier, .int s_copyLeft, .int s_tick, .int s_seed, .int s_dropped]))] := hD
            generalize ef16818 : upd f16790 v16791.toNatClampNeg r16816 = f16818 at hP hD
            obtain ⟨z16819, ez16819⟩ : ∃ y : Int32, y = v16791 + 1 := ⟨_, rfl⟩
            have tz16819 := ti_add (a := v16791.toInt) (b := 1) ez16819 rfl (by decide) (by omega) (by omega)
            refine lv_iinc (v := z16819) (lv' := [(1, .int z16819), (4, .int v16804), (3, .int v16803), (2, .int z16801), (0, .ref hX)]) hx hb dX6_findAnswerTimes_87 hl (k := 3) rfl (by rw [ez16819]; rfl) (by decide) rfl (fun ls hl => ?_)
            refine lv_goto (tgt := 2) hx hb dX6_findAnswerTimes_90 (by decide) ?_
            have hl := lv_sub (l' := [(1, .int z16819), (0, .ref hX)]) hl [0, 4] rfl
            have hP : va_P (dC, dI) vwCl [(hX, .inr (6, [.ref (xd 0), .int x_tapeLength, .ref hp, .ref hd, .ref hR0, .ref hu, .ref (xd 6), .int x_at, .int x_top, .ref hs, .ref hT, .ref (xd 11), .ref (xd 12), .ref (xd 13), .int x_lyingCount, .ref (xd 15), .int x_fewest, .ref hg, .ref (xd 18), .int x_time])), (xd 15, .inl (cyI, 6, .inl f16802)), (xd 18, .inl (cyI, 7, .inl f16818)), (hp, .inr (1, [.ref (pd 0), .ref (pd 1), .ref (pd 2), .ref hf, .int p_mC, .int p_nC, .int p_kC, .int p_units, .int p_copy, .int p_loss, .int p_draw])), (pd 0, .inl (cyI, 6, .inl p_members)), (hf, .inr (0, [.ref (fd 0), .ref (fd 1), .ref (fd 2), .int f_length])), (fd 0, .inl (cyI, 270, .inl f_steps)), (fd 1, .inl (cyI, 31, .inl (u16817.1 0))), (fd 2, .inl (cyI, 6, .inl (u16817.1 1))), (hs, .inr (5, [.ref (sd 0), .ref (sd 1), .ref (sd 2), .ref (sd 3), .ref (sd 4), .ref (sd 5), .ref (sd 6), .int s_size, .int s_copier, .int s_copyLeft, .int s_tick, .int s_seed, .int s_dropped]))] H := g_sub (isC := [2, 3, 0, 4, 1, 5, 6, 7, 8, 9]) hP rfl
            have hD : va_D A [(hX, .inr (6, [.ref (xd 0), .int x_tapeLength, .ref hp, .ref hd, .ref hR0, .ref hu, .ref (xd 6), .int x_at, .int x_top, .ref hs, .ref hT, .ref (xd 11), .ref (xd 12), .ref (xd 13), .int x_lyingCount, .ref (xd 15), .int x_fewest, .ref hg, .ref (xd 18), .int x_time])), (xd 15, .inl (cyI, 6, .inl f16802)), (xd 18, .inl (cyI, 7, .inl f16818)), (hp, .inr (1, [.ref (pd 0), .ref (pd 1), .ref (pd 2), .ref hf, .int p_mC, .int p_nC, .int p_kC, .int p_units, .int p_copy, .int p_loss, .int p_draw])), (pd 0, .inl (cyI, 6, .inl p_members)), (hf, .inr (0, [.ref (fd 0), .ref (fd 1), .ref (fd 2), .int f_length])), (fd 0, .inl (cyI, 270, .inl f_steps)), (fd 1, .inl (cyI, 31, .inl (u16817.1 0))), (fd 2, .inl (cyI, 6, .inl (u16817.1 1))), (hs, .inr (5, [.ref (sd 0), .ref (sd 1), .ref (sd 2), .ref (sd 3), .ref (sd 4), .ref (sd 5), .ref (sd 6), .int s_size, .int s_copier, .int s_copyLeft, .int s_tick, .int s_seed, .int s_dropped]))] := hD.sub [2, 3, 0, 4, 1, 5, 6, 7, 8, 9] (by decide) rfl
            apply ih16795 (f16787 := u16817.1 0) (f16788 := u16817.1 1) (f16789 := f16802) (f16790 := f16818) (v16791 := z16819) (H := H) (locs := locs) (ls := ls) <;> first | assumption | omega
          · have c16813 := i_eq (a := z16801.toInt) (b := 0) c16813 rfl (by decide)
            refine lv_ldc (v := 1000000) hx hb hown (hts _ (ow_m (k := 13) rfl)) dX6_findAnswerTimes_71 ?_
            refine lv_goto (tgt := 86) hx hb dX6_findAnswerTimes_73 (by decide) ?_
            refine va_iast hx hb hK hP hD hS 1 1 rfl rfl (vp_i rfl (by omega) (by omega)) dX6_findAnswerTimes_86 (fun H locs hP hD hS => ?_)
            have hP : va_P (dC, dI) vwCl [(xd 15, .inl (cyI, 6, .inl f16802)), (xd 18, .inl (cyI, 7, .inl (upd f16790 v16791.toNatClampNeg 1000000))), (pd 0, .inl (cyI, 6, .inl p_members)), (hf, .inr (0, [.ref (fd 0), .ref (fd 1), .ref (fd 2), .int f_length])), (fd 0, .inl (cyI, 270, .inl f_steps)), (fd 1, .inl (cyI, 31, .inl f16787)), (fd 2, .inl (cyI, 6, .inl f16788)), (hs, .inr (5, [.ref (sd 0), .ref (sd 1), .ref (sd 2), .ref (sd 3), .ref (sd 4), .ref (sd 5), .ref (sd 6), .int s_size, .int s_copier, .int s_copyLeft, .int s_tick, .int s_seed, .int s_dropped])), (hX, .inr (6, [.ref (xd 0), .int x_tapeLength, .ref hp, .ref hd, .ref hR0, .ref hu, .ref (xd 6), .int x_at, .int x_top, .ref hs, .ref hT, .ref (xd 11), .ref (xd 12), .ref (xd 13), .int x_lyingCount, .ref (xd 15), .int x_fewest, .ref hg, .ref (xd 18), .int x_time])), (hp, .inr (1, [.ref (pd 0), .ref (pd 1), .ref (pd 2), .ref hf, .int p_mC, .int p_nC, .int p_kC, .int p_units, .int p_copy, .int p_loss, .int p_draw]))] H := hP
            have hD : va_D A [(xd 15, .inl (cyI, 6, .inl f16802)), (xd 18, .inl (cyI, 7, .inl (upd f16790 v16791.toNatClampNeg 1000000))), (pd 0, .inl (cyI, 6, .inl p_members)), (hf, .inr (0, [.ref (fd 0), .ref (fd 1), .ref (fd 2), .int f_length])), (fd 0, .inl (cyI, 270, .inl f_steps)), (fd 1, .inl (cyI, 31, .inl f16787)), (fd 2, .inl (cyI, 6, .inl f16788)), (hs, .inr (5, [.ref (sd 0), .ref (sd 1), .ref (sd 2), .ref (sd 3), .ref (sd 4), .ref (sd 5), .ref (sd 6), .int s_size, .int s_copier, .int s_copyLeft, .int s_tick, .int s_seed, .int s_dropped])), (hX, .inr (6, [.ref (xd 0), .int x_tapeLength, .ref hp, .ref hd, .ref hR0, .ref hu, .ref (xd 6), .int x_at, .int x_top, .ref hs, .ref hT, .ref (xd 11), .ref (xd 12), .ref (xd 13), .int x_lyingCount, .ref (xd 15), .int x_fewest, .ref hg, .ref (xd 18), .int x_time])), (hp, .inr (1, [.ref (pd 0), .ref (pd 1), .ref (pd 2), .ref hf, .int p_mC, .int p_nC, .int p_kC, .int p_units, .int p_copy, .int p_loss, .int p_draw]))] := hD
            generalize ef16820 : upd f16790 v16791.toNatClampNeg 1000000 = f16820 at hP hD
            obtain ⟨z16821, ez16821⟩ : ∃ y : Int32, y = v16791 + 1 := ⟨_, rfl⟩
            have tz16821 := ti_add (a := v16791.toInt) (b := 1) ez16821 rfl (by decide) (by omega) (by omega)
            refine lv_iinc (v := z16821) (lv' := [(1, .int z16821), (4, .int v16804), (3, .int v16803), (2, .int z16801), (0, .ref hX)]) hx hb dX6_findAnswerTimes_87 hl (k := 3) rfl (by rw [ez16821]; rfl) (by decide) rfl (fun ls hl => ?_)
            refine lv_goto (tgt := 2) hx hb dX6_findAnswerTimes_90 (by decide) ?_
            have hl := lv_sub (l' := [(1, .int z16821), (0, .ref hX)]) hl [0, 4] rfl
            have hP : va_P (dC, dI) vwCl [(hX, .inr (6, [.ref (xd 0), .int x_tapeLength, .ref hp, .ref hd, .ref hR0, .ref hu, .ref (xd 6), .int x_at, .int x_top, .ref hs, .ref hT, .ref (xd 11), .ref (xd 12), .ref (xd 13), .int x_lyingCount, .ref (xd 15), .int x_fewest, .ref hg, .ref (xd 18), .int x_time])), (xd 15, .inl (cyI, 6, .inl f16802)), (xd 18, .inl (cyI, 7, .inl f16820)), (hp, .inr (1, [.ref (pd 0), .ref (pd 1), .ref (pd 2), .ref hf, .int p_mC, .int p_nC, .int p_kC, .int p_units, .int p_copy, .int p_loss, .int p_draw])), (pd 0, .inl (cyI, 6, .inl p_members)), (hf, .inr (0, [.ref (fd 0), .ref (fd 1), .ref (fd 2), .int f_length])), (fd 0, .inl (cyI, 270, .inl f_steps)), (fd 1, .inl (cyI, 31, .inl f16787)), (fd 2, .inl (cyI, 6, .inl f16788)), (hs, .inr (5, [.ref (sd 0), .ref (sd 1), .ref (sd 2), .ref (sd 3), .ref (sd 4), .ref (sd 5), .ref (sd 6), .int s_size, .int s_copier, .int s_copyLeft, .int s_tick, .int s_seed, .int s_dropped]))] H := g_sub (isC := [8, 0, 1, 9, 2, 3, 4, 5, 6, 7]) hP rfl
            have hD : va_D A [(hX, .inr (6, [.ref (xd 0), .int x_tapeLength, .ref hp, .ref hd, .ref hR0, .ref hu, .ref (xd 6), .int x_at, .int x_top, .ref hs, .ref hT, .ref (xd 11), .ref (xd 12), .ref (xd 13), .int x_lyingCount, .ref (xd 15), .int x_fewest, .ref hg, .ref (xd 18), .int x_time])), (xd 15, .inl (cyI, 6, .inl f16802)), (xd 18, .inl (cyI, 7, .inl f16820)), (hp, .inr (1, [.ref (pd 0), .ref (pd 1), .ref (pd 2), .ref hf, .int p_mC, .int p_nC, .int p_kC, .int p_units, .int p_copy, .int p_loss, .int p_draw])), (pd 0, .inl (cyI, 6, .inl p_members)), (hf, .inr (0, [.ref (fd 0), .ref (fd 1), .ref (fd 2), .int f_length])), (fd 0, .inl (cyI, 270, .inl f_steps)), (fd 1, .inl (cyI, 31, .inl f16787)), (fd 2, .inl (cyI, 6, .inl f16788)), (hs, .inr (5, [.ref (sd 0), .ref (sd 1), .ref (sd 2), .ref (sd 3), .ref (sd 4), .ref (sd 5), .ref (sd 6), .int s_size, .int s_copier, .int s_copyLeft, .int s_tick, .int s_seed, .int s_dropped]))] := hD.sub [8, 0, 1, 9, 2, 3, 4, 5, 6, 7] (by decide) rfl
            apply ih16795 (f16787 := f16787) (f16788 := f16788) (f16789 := f16802) (f16790 := f16820) (v16791 := z16821) (H := H) (locs := locs) (ls := ls) <;> first | assumption | omega
        · have c16812 := i_nle (a := p_mC.toInt) (b := v16804.toInt) c16812 rfl rfl
          refine lv_iload hx hb dX6_findAnswerTimes_31 (lv_at hl 0 rfl) ?_
          refine lv_iload_n hx hb dX6_findAnswerTimes_33 rfl (lv_at hl 2 rfl) ?_
          refine lv_icmp_eq (tgt := 56) hx hb dX6_findAnswerTimes_34 (by decide) (fun c16822 => ?_) (fun c16822 => ?_)
          · have c16822 := i_eq (a := v16804.toInt) (b := z16801.toInt) c16822 rfl rfl
            obtain ⟨z16823, ez16823⟩ : ∃ y : Int32, y = v16804 + 1 := ⟨_, rfl⟩
            have tz16823 := ti_add (a := v16804.toInt) (b := 1) ez16823 rfl (by decide) (by omega) (by omega)
            refine lv_iinc (v := z16823) (lv' := [(4, .int z16823), (3, .int v16803), (2, .int z16801), (1, .int v16791), (0, .ref hX)]) hx hb dX6_findAnswerTimes_56 hl (k := 0) rfl (by rw [ez16823]; rfl) (by decide) rfl (fun ls hl => ?_)
            refine lv_goto (tgt := 19) hx hb dX6_findAnswerTimes_59 (by decide) ?_
            have hl := lv_sub (l' := [(4, .int z16823), (3, .int v16803), (2, .int z16801), (1, .int v16791), (0, .ref hX)]) hl [0, 1, 2, 3, 4] rfl
            apply ih16811 (f16802 := f16802) (v16803 := v16803) (v16804 := z16823) (H := H) (locs := locs) (ls := ls) <;> first | assumption | omega
          · have c16822 := i_ne (a := v16804.toInt) (b := z16801.toInt) c16822 rfl rfl
            refine lv_aload_n hx hb dX6_findAnswerTimes_37 rfl (lv_at hl 4 rfl) ?_
            refine va_get (D := (dC, dI)) (ci := 6) (v := .ref (xd 15)) (C := RX6) (T := TX6) (N := 20) hx hb hts hi6 hown hK hP 8 rfl rfl 15 (by decide) (hts _ (ow_m (k := 14) rfl)) (fun _ h9 => h9) rfl dX6_findAnswerTimes_38 ?_
            refine lv_iload_n hx hb dX6_findAnswerTimes_41 rfl (lv_at hl 1 rfl) ?_
            refine lv_aload_n hx hb dX6_findAnswerTimes_42 rfl (lv_at hl 4 rfl) ?_
            refine va_get (D := (dC, dI)) (ci := 6) (v := .ref hp) (C := RX6) (T := TX6) (N := 20) hx hb hts hi6 hown hK hP 8 rfl rfl 2 (by decide) (hts _ (ow_m (k := 4) rfl)) (fun _ h9 => h9) rfl dX6_findAnswerTimes_43 ?_
            refine va_get (D := (dC, dI)) (ci := 1) (v := .ref (pd 0)) (C := RX1) (T := TX1) (N := 11) hx hb hts hi1 hown hK hP 9 rfl rfl 0 (by decide) (hts _ (ow_m (k := 15) rfl)) (fun _ h9 => h9) rfl dX6_findAnswerTimes_46 ?_
            refine lv_iload hx hb dX6_findAnswerTimes_49 (lv_at hl 0 rfl) ?_
            refine va_iald hx hb hK hP 2 1 rfl rfl (vp_i rfl (by omega) (by omega)) dX6_findAnswerTimes_51 ?_
            refine lv_topi (fun z16824 ez16824 => ?_)
            have tz16824 := i0_p_members.at (x := v16804.toInt) ez16824 rfl (by omega) (by omega)
            refine va_iast hx hb hK hP hD hS 0 1 rfl rfl (vp_i rfl (by omega) (by omega)) dX6_findAnswerTimes_52 (fun H locs hP hD hS => ?_)
            have hP : va_P (dC, dI) vwCl [(xd 15, .inl (cyI, 6, .inl (upd f16802 v16803.toNatClampNeg z16824))), (xd 18, .inl (cyI, 7, .inl f16790)), (pd 0, .inl (cyI, 6, .inl p_members)), (hf, .inr (0, [.ref (fd 0), .ref (fd 1), .ref (fd 2), .int f_length])), (fd 0, .inl (cyI, 270, .inl f_steps)), (fd 1, .inl (cyI, 31, .inl f16787)), (fd 2, .inl (cyI, 6, .inl f16788)), (hs, .inr (5, [.ref (sd 0), .ref (sd 1), .ref (sd 2), .ref (sd 3), .ref (sd 4), .ref (sd 5), .ref (sd 6), .int s_size, .int s_copier, .int s_copyLeft, .int s_tick, .int s_seed, .int s_dropped])), (hX, .inr (6, [.ref (xd 0), .int x_tapeLength, .ref hp, .ref hd, .ref hR0, .ref hu, .ref (xd 6), .int x_at, .int x_top, .ref hs, .ref hT, .ref (xd 11), .ref (xd 12), .ref (xd 13), .int x_lyingCount, .ref (xd 15), .int x_fewest, .ref hg, .ref (xd 18), .int x_time])), (hp, .inr (1, [.ref (pd 0), .ref (pd 1), .ref (pd 2), .ref hf, .int p_mC, .int p_nC, .int p_kC, .int p_units, .int p_copy, .int p_loss, .int p_draw]))] H := hP
            have hD : va_D A [(xd 15, .inl (cyI, 6, .inl (upd f16802 v16803.toNatClampNeg z16824))), (xd 18, .inl (cyI, 7, .inl f16790)), (pd 0, .inl (cyI, 6, .inl p_members)), (hf, .inr (0, [.ref (fd 0), .ref (fd 1), .ref (fd 2), .int f_length])), (fd 0, .inl (cyI, 270, .inl f_steps)), (fd 1, .inl (cyI, 31, .inl f16787)), (fd 2, .inl (cyI, 6, .inl f16788)), (hs, .inr (5, [.ref (sd 0), .ref (sd 1), .ref (sd 2), .ref (sd 3), .ref (sd 4), .ref (sd 5), .ref (sd 6), .int s_size, .int s_copier, .int s_copyLeft, .int s_tick, .int s_seed, .int s_dropped])), (hX, .inr (6, [.ref (xd 0), .int x_tapeLength, .ref hp, .ref hd, .ref hR0, .ref hu, .ref (xd 6), .int x_at, .int x_top, .ref hs, .ref hT, .ref (xd 11), .ref (xd 12), .ref (xd 13), .int x_lyingCount, .ref (xd 15), .int x_fewest, .ref hg, .ref (xd 18), .int x_time])), (hp, .inr (1, [.ref (pd 0), .ref (pd 1), .ref (pd 2), .ref hf, .int p_mC, .int p_nC, .int p_kC, .int p_units, .int p_copy, .int p_loss, .int p_draw]))] := hD
            generalize ef16825 : upd f16802 v16803.toNatClampNeg z16824 = f16825 at hP hD
            obtain ⟨z16826, ez16826⟩ : ∃ y : Int32, y = v16803 + 1 := ⟨_, rfl⟩
            have tz16826 := ti_add (a := v16803.toInt) (b := 1) ez16826 rfl (by decide) (by omega) (by omega)
            refine lv_iinc (v := z16826) (lv' := [(3, .int z16826), (4, .int v16804), (2, .int z16801), (1, .int v16791), (0, .ref hX)]) hx hb dX6_findAnswerTimes_53 hl (k := 1) rfl (by rw [ez16826]; rfl) (by decide) rfl (fun ls hl => ?_)
            obtain ⟨z16827, ez16827⟩ : ∃ y : Int32, y = v16804 + 1 := ⟨_, rfl⟩
            have tz16827 := ti_add (a := v16804.toInt) (b := 1) ez16827 rfl (by decide) (by omega) (by omega)
            refine lv_iinc (v := z16827) (lv' := [(4, .int z16827), (3, .int z16826), (2, .int z16801), (1, .int v16791), (0, .ref hX)]) hx hb dX6_findAnswerTimes_56 hl (k := 1) rfl (by rw [ez16827]; rfl) (by decide) rfl (fun ls hl => ?_)
            refine lv_goto (tgt := 19) hx hb dX6_findAnswerTimes_59 (by decide) ?_
            have hl := lv_sub (l' := [(4, .int z16827), (3, .int z16826), (2, .int z16801), (1, .int v16791), (0, .ref hX)]) hl [0, 1, 2, 3, 4] rfl
            apply ih16811 (f16802 := f16825) (v16803 := z16826) (v16804 := z16827) (H := H) (locs := locs) (ls := ls) <;> first | assumption | omega
def wo_k_X_fault : List Cond := [.fieldLink RX6 28 "ReplicaChain" "reader" "LReplicaChain$Reader;", .fieldLink RX6 151 "ReplicaChain$Reader" "faultKind" "I", .fieldLink RX6 154 "ReplicaChain$Reader" "faultPlace" "I"]
def wq_k_X_fault : List Cond := .code yX6_fault cX6_fault 2 (some .int) :: (wo_k_X_fault ++ (wsX20 ++ (wsX60 ++ [])))
theorem gd_k_X_fault : Gd wq_k_X_fault := gd_c (gd_a (gd_o (by decide +kernel)) (gd_a gd_u (gd_a gd_u gd_0)))
abbrev wc_k_X_fault (cyB cyI cyJ cyZ cyO : ClassId) (hX : Nat) (xd : Nat → Nat) (x_tapeLength : Int32) (x_at : Int32) (x_top : Int32) (x_lyingCount : Int32) (x_fewest : Int32) (x_time : Int32) (hR0 : Nat) (ed : Nat → Nat) (e_length : Int32) (e_at : Int32) (e_kind : Int32) (e_start : Int32) (e_number : Int32) (e_told : Int32) (e_faultKind : Int32) (e_faultPlace : Int32) (e_name : Int64) (x1 : Int32) (hp : Nat) (hd : Nat) (hu : Nat) (hs : Nat) (hT : Nat) (hg : Nat) (he : Nat) : va_W := [(hX, .inr (6, [.ref (xd 0), .int x_tapeLength, .ref hp, .ref hd, .ref hR0, .ref hu, .ref (xd 6), .int x_at, .int x_top, .ref hs, .ref hT, .ref (xd 11), .ref (xd 12), .ref (xd 13), .int x_lyingCount, .ref (xd 15), .int x_fewest, .ref hg, .ref (xd 18), .int x_time])), (hR0, .inr (2, [.ref (ed 0), .int e_length, .int e_at, .ref he, .int e_kind, .int e_start, .int e_number, .long e_name, .int e_told, .int e_faultKind, .int e_faultPlace]))]
set_option maxHeartbeats 4000000 in
set_option maxRecDepth 100000 in
theorem k_X_fault (l : Launch) (dC : Nat → ClassId) (dI : Nat → Nat → Nat) (cyB cyI cyJ cyZ cyO : ClassId) (hX : Nat) (xd : Nat → Nat) (x_tapeLength : Int32) (x_at : Int32) (x_top : Int32) (x_lyingCount : Int32) (x_fewest : Int32) (x_time : Int32) (hR0 : Nat) (ed : Nat → Nat) (e_length : Int32) (e_at : Int32) (e_kind : Int32) (e_start : Int32) (e_number : Int32) (e_told : Int32) (e_faultKind : Int32) (e_faultPlace : Int32) (e_name : Int64) (x1 : Int32) (hp : Nat) (hd : Nat) (hu : Nat) (hs : Nat) (hT : Nat) (hg : Nat) (he : Nat) (sz : Nat) (l_x_tapeLength : 0 ≤ x_tapeLength.toInt) (u_x_tapeLength : x_tapeLength.toInt ≤ 1600) (l_x_at : 0 ≤ x_at.toInt) (u_x_at : x_at.toInt ≤ 40) (l_x_top : 0 ≤ x_top.toInt) (u_x_top : x_top.toInt ≤ 40) (l_x_lyingCount : 0 ≤ x_lyingCount.toInt) (u_x_lyingCount : x_lyingCount.toInt ≤ 6) (l_x_time : 0 ≤ x_time.toInt) (u_x_time : x_time.toInt ≤ 100000) (l_e_length : 0 ≤ e_length.toInt) (u_e_length : e_length.toInt ≤ 1600) (l_e_kind : 0 ≤ e_kind.toInt) (u_e_kind : e_kind.toInt ≤ 5) : Met l yX6_fault wq_k_X_fault ({ frames := 0, cells := 0, slots := 0, locals := 0 }) (va_Pc [.ref hX, .int x1] (cB (dC, dI) (kT cyB cyI cyJ cyZ cyO) (wc_k_X_fault cyB cyI cyJ cyZ cyO hX xd x_tapeLength x_at x_top x_lyingCount x_fewest x_time hR0 ed e_length e_at e_kind e_start e_number e_told e_faultKind e_faultPlace e_name x1 hp hd hu hs hT hg he) sz)) (va_Qi (fun (r : Int32) (u : Unit) => True) (fun (u : Unit) t => cE (dC, dI) (va_A (wc_k_X_fault cyB cyI cyJ cyZ cyO hX xd x_tapeLength x_at x_top x_lyingCount x_fewest x_time hR0 ed e_length e_at e_kind e_start e_number e_told e_faultKind e_faultPlace e_name x1 hp hd hu hs hT hg he) sz) ([(hX, .inr (6, [.ref (xd 0), .int x_tapeLength, .ref hp, .ref hd, .ref hR0, .ref hu, .ref (xd 6), .int x_at, .int x_top, .ref hs, .ref hT, .ref (xd 11), .ref (xd 12), .ref (xd 13), .int x_lyingCount, .ref (xd 15), .int x_fewest, .ref hg, .ref (xd 18), .int x_time])), (hR0, .inr (2, [.ref (ed 0), .int e_length, .int e_at, .ref he, .int e_kind, .int e_start, .int e_number, .long e_name, .int e_told, .int e_faultKind, .int e_faultPlace]))]) t.heap) (va_A (wc_k_X_fault cyB cyI cyJ cyZ cyO hX xd x_tapeLength x_at x_top x_lyingCount x_fewest x_time hR0 ed e_length e_at e_kind e_start e_number e_told e_faultKind e_faultPlace e_name x1 hp hd hu hs hT hg he) sz)) 0 0 (va_A (wc_k_X_fault cyB cyI cyJ cyZ cyO hX xd x_tapeLength x_at x_top x_lyingCount x_fewest x_time hR0 ed e_length e_at e_kind e_start e_number e_told e_faultKind e_faultPlace e_name x1 hp hd hu hs hT hg he) sz) := by
  refine Met.ofW (cc := cX6_fault) (maxL := 2) (ret := (some .int)) (by decide) rfl ?_
  intro p e s m args below meth c s₁ B hml hv
  obtain ⟨rfl, hsz, hP, hKN, hD0⟩ := hv
  have hx := B.exec
  have hb := B.bytes
  have hr := B.returns
  have hts := atoms_spec (ws := wq_k_X_fault) B.pre
  have hown : s.vm.findClass RX6 = some m.cls := findClass_of_methodNamed B.named
  have hlocks := B.notSynchronized
  have hK := hKN.1
  have hfix : CallFix p m c cX6_fault 2 s [.ref hX, .int x1].toArray wq_k_X_fault RX6 := ⟨hx, hb, hml, hown, hts⟩
  have hi2 : ∀ w ∈ wsX20, w ∈ wq_k_X_fault := (sb_c sb_l)
  have hi6 : ∀ w ∈ wsX60, w ∈ wq_k_X_fault := (sb_c (sb_r sb_l))
  subst hsz
  have hD := hD0.self (sz := s.heap.size)
  generalize hAe : va_A (wc_k_X_fault cyB cyI cyJ cyZ cyO hX xd x_tapeLength x_at x_top x_lyingCount x_fewest x_time hR0 ed e_length e_at e_kind e_start e_number e_told e_faultKind e_faultPlace e_name x1 hp hd hu hs hT hg he) s.heap.size = A at hD ⊢
  have hA : ∀ q : Nat, s.heap.size ≤ q → A q := fun q h => by rw [← hAe]; exact Or.inr h
  have hS : va_S A s.heap s.heap [] := va_S.rf
  have hl := lv_entry ([.ref hX, .int x1]) (n := 2) (Nat.le_of_ble_eq_true rfl)
  rw [lg_entry_eq]
  generalize (lg_sl ([.ref hX, .int x1]) ++ List.replicate (2 - (lg_sl ([.ref hX, .int x1])).length) Slot.unset).toArray = ls at hl ⊢
  have hl : lv_has ls 2 [(0, .ref hX), (1, .int x1)] := hl
  refine lv_iload_n hx hb dX6_fault_0 rfl (lv_at hl 1 rfl) ?_
  by_cases c16832 : x1 = 0
  · have c16832i := i_eq (b := 0) c16832 rfl (by decide)
    refine lv_lookup (off := 27) (tgt := 28) hx hb dX6_fault_1 rfl (by first | (rw [c16832]; done) | (rw [c16832]; rfl)) (by decide) ?_
    refine lv_aload_n hx hb dX6_fault_28 rfl (lv_at hl 0 rfl) ?_
    refine va_get (D := (dC, dI)) (ci := 6) (v := .ref hR0) (C := RX6) (T := TX6) (N := 20) hx hb hts hi6 hown hK hP 0 rfl rfl 4 (by decide) (hts _ (ow_m (k := 0) rfl)) (fun _ h9 => h9) rfl dX6_fault_29 ?_
    refine va_get (D := (dC, dI)) (ci := 2) (v := .int e_faultKind) (C := RX2) (T := TX2) (N := 11) hx hb hts hi2 hown hK hP 1 rfl rfl 9 (by decide) (hts _ (ow_m (k := 1) rfl)) (fun _ h9 => h9) rfl dX6_fault_32 ?_
    exact W.iret (v := e_faultKind) hx hb hr (fun t ht hW => ⟨⟨e_faultKind, (), rfl, trivial, cE.of ht hP hD [0, 1] (by decide) rfl⟩, hS.F ht⟩) hS.2.2 dX6_fault_35
  have c16832i := i_ne (b := 0) c16832 rfl (by decide)
  by_cases c16833 : x1 = 1
  · have c16833i := i_eq (b := 1) c16833 rfl (by decide)
    refine lv_lookup (off := 35) (tgt := 36) hx hb dX6_fault_1 rfl (by first | (rw [c16833]; done) | (rw [c16833]; rfl)) (by decide) ?_
    refine lv_aload_n hx hb dX6_fault_36 rfl (lv_at hl 0 rfl) ?_
    refine va_get (D := (dC, dI)) (ci := 6) (v := .ref hR0) (C := RX6) (T := TX6) (N := 20) hx hb hts hi6 hown hK hP 0 rfl rfl 4 (by decide) (hts _ (ow_m (k := 0) rfl)) (fun _ h9 => h9) rfl dX6_fault_37 ?_
    refine va_get (D := (dC, dI)) (ci := 2) (v := .int e_faultPlace) (C := RX2) (T := TX2) (N := 11) hx hb hts hi2 hown hK hP 1 rfl rfl 10 (by decide) (hts _ (ow_m (k := 2) rfl)) (fun _ h9 => h9) rfl dX6_fault_40 ?_
    exact W.iret (v := e_faultPlace) hx hb hr (fun t ht hW => ⟨⟨e_faultPlace, (), rfl, trivial, cE.of ht hP hD [0, 1] (by decide) rfl⟩, hS.F ht⟩) hS.2.2 dX6_fault_43
  have c16833i := i_ne (b := 1) c16833 rfl (by decide)
  refine lv_lookup (off := 43) (tgt := 44) hx hb dX6_fault_1 rfl ((lv_osw c16832 (by decide)).trans ((lv_osw c16833 (by decide)).trans rfl)) (by decide) ?_
  refine lv_iconst (v := (-1)) hx hb dX6_fault_44 (by decide) ?_
  exact W.iret (v := (-1)) hx hb hr (fun t ht hW => ⟨⟨(-1), (), rfl, trivial, cE.of ht hP hD [0, 1] (by decide) rfl⟩, hS.F ht⟩) hS.2.2 dX6_fault_45
def wo_k_X_row : List Cond := [.fieldLink RX6 110 "ReplicaChain" "now" "LReplicaChain$State;", .fieldLink RX6 157 "ReplicaChain$State" "size" "I", .fieldLink RX6 160 "ReplicaChain$State" "row" "[I"]
def wq_k_X_row : List Cond := .code yX6_row cX6_row 2 (some .int) :: (wo_k_X_row ++ (wsX50 ++ (wsX60 ++ [])))
theorem gd_k_X_row : Gd wq_k_X_row := gd_c (gd_a (gd_o (by decide +kernel)) (gd_a gd_u (gd_a gd_u gd_0)))
abbrev wc_k_X_row (cyB cyI cyJ cyZ cyO : ClassId) (hX : Nat) (xd : Nat → Nat) (x_tapeLength : Int32) (x_at : Int32) (x_top : Int32) (x_lyingCount : Int32) (x_fewest : Int32) (x_time : Int32) (hs : Nat) (sd : Nat → Nat) (s_row : Nat → Int32) (s_size : Int32) (s_copier : Int32) (s_copyLeft : Int32) (s_tick : Int32) (s_seed : Int32) (s_dropped : Int32) (x1 : Int32) (hp : Nat) (hd : Nat) (hR0 : Nat) (hu : Nat) (hT : Nat) (hg : Nat) : va_W := [(hX, .inr (6, [.ref (xd 0), .int x_tapeLength, .ref hp, .ref hd, .ref hR0, .ref hu, .ref (xd 6), .int x_at, .int x_top, .ref hs, .ref hT, .ref (xd 11), .ref (xd 12), .ref (xd 13), .int x_lyingCount, .ref (xd 15), .int x_fewest, .ref hg, .ref (xd 18), .int x_time])), (hs, .inr (5, [.ref (sd 0), .ref (sd 1), .ref (sd 2), .ref (sd 3), .ref (sd 4), .ref (sd 5), .ref (sd 6), .int s_size, .int s_copier, .int s_copyLeft, .int s_tick, .int s_seed, .int s_dropped])), (sd 0, .inl (cyI, 6, .inl s_row))]
set_option maxHeartbeats 4000000 in
set_option maxRecDepth 100000 in
theorem k_X_row (l : Launch) (dC : Nat → ClassId) (dI : Nat → Nat → Nat) (cyB cyI cyJ cyZ cyO : ClassId) (hX : Nat) (xd : Nat → Nat) (x_tapeLength : Int32) (x_at : Int32) (x_top : Int32) (x_lyingCount : Int32) (x_fewest : Int32) (x_time : Int32) (hs : Nat) (sd : Nat → Nat) (s_row : Nat → Int32) (s_size : Int32) (s_copier : Int32) (s_copyLeft : Int32) (s_tick : Int32) (s_seed : Int32) (s_dropped : Int32) (x1 : Int32) (hp : Nat) (hd : Nat) (hR0 : Nat) (hu : Nat) (hT : Nat) (hg : Nat) (sz : Nat) (l_x_tapeLength : 0 ≤ x_tapeLength.toInt) (u_x_tapeLength : x_tapeLength.toInt ≤ 1600) (l_x_at : 0 ≤ x_at.toInt) (u_x_at : x_at.toInt ≤ 40) (l_x_top : 0 ≤ x_top.toInt) (u_x_top : x_top.toInt ≤ 40) (l_x_lyingCount : 0 ≤ x_lyingCount.toInt) (u_x_lyingCount : x_lyingCount.toInt ≤ 6) (l_x_time : 0 ≤ x_time.toInt) (u_x_time : x_time.toInt ≤ 100000) (l_s_size : 0 ≤ s_size.toInt) (u_s_size : s_size.toInt ≤ 6) (l_s_copier : -1 ≤ s_copier.toInt) (u_s_copier : s_copier.toInt ≤ 7) (l_s_seed : 0 ≤ s_seed.toInt) (u_s_seed : s_seed.toInt ≤ 999) (i0_s_row : In2 s_row 0 6 (0) (7)) : Met l yX6_row wq_k_X_row ({ frames := 0, cells := 0, slots := 0, locals := 0 }) (va_Pc [.ref hX, .int x1] (cB (dC, dI) (kT cyB cyI cyJ cyZ cyO) (wc_k_X_row cyB cyI cyJ cyZ cyO hX xd x_tapeLength x_at x_top x_lyingCount x_fewest x_time hs sd s_row s_size s_copier s_copyLeft s_tick s_seed s_dropped x1 hp hd hR0 hu hT hg) sz)) (va_Qi (fun (r : Int32) (u : Unit) => (-1 ≤ r.toInt) ∧ (r.toInt ≤ 7)) (fun (u : Unit) t => cE (dC, dI) (va_A (wc_k_X_row cyB cyI cyJ cyZ cyO hX xd x_tapeLength x_at x_top x_lyingCount x_fewest x_time hs sd s_row s_size s_copier s_copyLeft s_tick s_seed s_dropped x1 hp hd hR0 hu hT hg) sz) ([(hX, .inr (6, [.ref (xd 0), .int x_tapeLength, .ref hp, .ref hd, .ref hR0, .ref hu, .ref (xd 6), .int x_at, .int x_top, .ref hs, .ref hT, .ref (xd 11), .ref (xd 12), .ref (xd 13), .int x_lyingCount, .ref (xd 15), .int x_fewest, .ref hg, .ref (xd 18), .int x_time])), (hs, .inr (5, [.ref (sd 0), .ref (sd 1), .ref (sd 2), .ref (sd 3), .ref (sd 4), .ref (sd 5), .ref (sd 6), .int s_size, .int s_copier, .int s_copyLeft, .int s_tick, .int s_seed, .int s_dropped])), (sd 0, .inl (cyI, 6, .inl s_row))]) t.heap) (va_A (wc_k_X_row cyB cyI cyJ cyZ cyO hX xd x_tapeLength x_at x_top x_lyingCount x_fewest x_time hs sd s_row s_size s_copier s_copyLeft s_tick s_seed s_dropped x1 hp hd hR0 hu hT hg) sz)) 0 0 (va_A (wc_k_X_row cyB cyI cyJ cyZ cyO hX xd x_tapeLength x_at x_top x_lyingCount x_fewest x_time hs sd s_row s_size s_copier s_copyLeft s_tick s_seed s_dropped x1 hp hd hR0 hu hT hg) sz) := by
  refine Met.ofW (cc := cX6_row) (maxL := 2) (ret := (some .int)) (by decide) rfl ?_
  intro p e s m args below meth c s₁ B hml hv
  obtain ⟨rfl, hsz, hP, hKN, hD0⟩ := hv
  have hx := B.exec
  have hb := B.bytes
  have hr := B.returns
  have hts := atoms_spec (ws := wq_k_X_row) B.pre
  have hown : s.vm.findClass RX6 = some m.cls := findClass_of_methodNamed B.named
  have hlocks := B.notSynchronized
  have hK := hKN.1
  have hfix : CallFix p m c cX6_row 2 s [.ref hX, .int x1].toArray wq_k_X_row RX6 := ⟨hx, hb, hml, hown, hts⟩
  have hi5 : ∀ w ∈ wsX50, w ∈ wq_k_X_row := (sb_c sb_l)
  have hi6 : ∀ w ∈ wsX60, w ∈ wq_k_X_row := (sb_c (sb_r sb_l))
  subst hsz
  have hD := hD0.self (sz := s.heap.size)
  generalize hAe : va_A (wc_k_X_row cyB cyI cyJ cyZ cyO hX xd x_tapeLength x_at x_top x_lyingCount x_fewest x_time hs sd s_row s_size s_copier s_copyLeft s_tick s_seed s_dropped x1 hp hd hR0 hu hT hg) s.heap.size = A at hD ⊢
  have hA : ∀ q : Nat, s.heap.size ≤ q → A q := fun q h => by rw [← hAe]; exact Or.inr h
  have hS : va_S A s.heap s.heap [] := va_S.rf
  have hl := lv_entry ([.ref hX, .int x1]) (n := 2) (Nat.le_of_ble_eq_true rfl)
  rw [lg_entry_eq]
  generalize (lg_sl ([.ref hX, .int x1]) ++ List.replicate (2 - (lg_sl ([.ref hX, .int x1])).length) Slot.unset).toArray = ls at hl ⊢
  have hl : lv_has ls 2 [(0, .ref hX), (1, .int x1)] := hl
  have ckm1 : (-1 : Int32).toInt = -1 := by decide
  refine lv_iload_n hx hb dX6_row_0 rfl (lv_at hl 1 rfl) ?_
  refine lv_if_lt (tgt := 15) hx hb dX6_row_1 (by decide) (fun c16840 => ?_) (fun c16840 => ?_)
  · have c16840 := i_lt (a := x1.toInt) (b := 0) c16840 rfl (by decide)
    refine lv_iconst (v := (-1)) hx hb dX6_row_15 (by decide) ?_
    refine lv_goto (tgt := 28) hx hb dX6_row_16 (by decide) ?_
    have w16841 : -1 ≤ (-1 : Int32).toInt := by first | omega | assumption | rfl
    have w16842 : (-1 : Int32).toInt ≤ 7 := by first | omega | assumption | rfl
    exact W.iret (v := (-1)) hx hb hr (fun t ht hW => ⟨⟨(-1), (), rfl, ⟨w16841, w16842⟩, cE.of ht hP hD [0, 1, 2] (by decide) rfl⟩, hS.F ht⟩) hS.2.2 dX6_row_28
  · have c16840 := i_nlt (a := x1.toInt) (b := 0) c16840 rfl (by decide)
    refine lv_iload_n hx hb dX6_row_4 rfl (lv_at hl 1 rfl) ?_
    refine lv_aload_n hx hb dX6_row_5 rfl (lv_at hl 0 rfl) ?_
    refine va_get (D := (dC, dI)) (ci := 6) (v := .ref hs) (C := RX6) (T := TX6) (N := 20) hx hb hts hi6 hown hK hP 0 rfl rfl 9 (by decide) (hts _ (ow_m (k := 0) rfl)) (fun _ h9 => h9) rfl dX6_row_6 ?_
    refine va_get (D := (dC, dI)) (ci := 5) (v := .int s_size) (C := RX5) (T := TX5) (N := 13) hx hb hts hi5 hown hK hP 1 rfl rfl 7 (by decide) (hts _ (ow_m (k := 1) rfl)) (fun _ h9 => h9) rfl dX6_row_9 ?_
    refine lv_icmp_lt (tgt := 19) hx hb dX6_row_12 (by decide) (fun c16843 => ?_) (fun c16843 => ?_)
    · have c16843 := i_lt (a := x1.toInt) (b := s_size.toInt) c16843 rfl rfl
      refine lv_aload_n hx hb dX6_row_19 rfl (lv_at hl 0 rfl) ?_
      refine va_get (D := (dC, dI)) (ci := 6) (v := .ref hs) (C := RX6) (T := TX6) (N := 20) hx hb hts hi6 hown hK hP 0 rfl rfl 9 (by decide) (hts _ (ow_m (k := 0) rfl)) (fun _ h9 => h9) rfl dX6_row_20 ?_
      refine va_get (D := (dC, dI)) (ci := 5) (v := .ref (sd 0)) (C := RX5) (T := TX5) (N := 13) hx hb hts hi5 hown hK hP 1 rfl rfl 0 (by decide) (hts _ (ow_m (k := 2) rfl)) (fun _ h9 => h9) rfl dX6_row_23 ?_
      refine lv_iload_n hx hb dX6_row_26 rfl (lv_at hl 1 rfl) ?_
      refine va_iald hx hb hK hP 2 1 rfl rfl (vp_i rfl (by omega) (by omega)) dX6_row_27 ?_
      refine lv_topi (fun z16844 ez16844 => ?_)
      have tz16844 := i0_s_row.at (x := x1.toInt) ez16844 rfl (by omega) (by omega)
      have w16845 : -1 ≤ z16844.toInt := by first | omega | assumption | rfl
      have w16846 : z16844.toInt ≤ 7 := by first | omega | assumption | rfl
      exact W.iret (v := z16844) hx hb hr (fun t ht hW => ⟨⟨z16844, (), rfl, ⟨w16845, w16846⟩, cE.of ht hP hD [0, 1, 2] (by decide) rfl⟩, hS.F ht⟩) hS.2.2 dX6_row_28
    · have c16843 := i_nlt (a := x1.toInt) (b := s_size.toInt) c16843 rfl rfl
      refine lv_iconst (v := (-1)) hx hb dX6_row_15 (by decide) ?_
      refine lv_goto (tgt := 28) hx hb dX6_row_16 (by decide) ?_
      have w16847 : -1 ≤ (-1 : Int32).toInt := by first | omega | assumption | rfl
      have w16848 : (-1 : Int32).toInt ≤ 7 := by first | omega | assumption | rfl
      exact W.iret (v := (-1)) hx hb hr (fun t ht hW => ⟨⟨(-1), (), rfl, ⟨w16847, w16848⟩, cE.of ht hP hD [0, 1, 2] (by decide) rfl⟩, hS.F ht⟩) hS.2.2 dX6_row_28
def wo_k_X_node : List Cond := [.methodLink RX6 163 yX6_isNode, .instanceMethod yX6_isNode, .selects RX6 yX6_isNode yX6_isNode, .initialized RX6, .fieldLink RX6 110 "ReplicaChain" "now" "LReplicaChain$State;", .methodLink RX6 167 yX5_placeOf, .instanceMethod yX5_placeOf, .selects RX5 yX5_placeOf yX5_placeOf, .initialized RX5, .fieldLink RX6 170 "ReplicaChain$State" "has" "[I", .fieldLink RX6 173 "ReplicaChain$State" "clean" "[I", .fieldLink RX6 176 "ReplicaChain$State" "copier" "I"]
def wq_k_X_node : List Cond := .code yX6_node cX6_node 3 (some .int) :: (wo_k_X_node ++ (wq_k_X_isNode ++ (wq_k_St_placeOf ++ (wsX50 ++ (wsX60 ++ [])))))
theorem gd_k_X_node : Gd wq_k_X_node := gd_c (gd_a (gd_o (by decide +kernel)) (gd_a gd_k_X_isNode (gd_a gd_k_St_placeOf (gd_a gd_u (gd_a gd_u gd_0)))))
abbrev wc_k_X_node (cyB cyI cyJ cyZ cyO : ClassId) (hX : Nat) (xd : Nat → Nat) (x_tapeLength : Int32) (x_at : Int32) (x_top : Int32) (x_lyingCount : Int32) (x_fewest : Int32) (x_time : Int32) (hp : Nat) (pd : Nat → Nat) (p_mC : Int32) (p_nC : Int32) (p_kC : Int32) (p_units : Int32) (p_copy : Int32) (p_loss : Int32) (p_draw : Int32) (hs : Nat) (sd : Nat → Nat) (s_row : Nat → Int32) (s_has : Nat → Int32) (s_clean : Nat → Int32) (s_size : Int32) (s_copier : Int32) (s_copyLeft : Int32) (s_tick : Int32) (s_seed : Int32) (s_dropped : Int32) (x1 : Int32) (x2 : Int32) (hd : Nat) (hR0 : Nat) (hu : Nat) (hT : Nat) (hg : Nat) (hf : Nat) : va_W := [(hX, .inr (6, [.ref (xd 0), .int x_tapeLength, .ref hp, .ref hd, .ref hR0, .ref hu, .ref (xd 6), .int x_at, .int x_top, .ref hs, .ref hT, .ref (xd 11), .ref (xd 12), .ref (xd 13), .int x_lyingCount, .ref (xd 15), .int x_fewest, .ref hg, .ref (xd 18), .int x_time])), (hp, .inr (1, [.ref (pd 0), .ref (pd 1), .ref (pd 2), .ref hf, .int p_mC, .int p_nC, .int p_kC, .int p_units, .int p_copy, .int p_loss, .int p_draw])), (hs, .inr (5, [.ref (sd 0), .ref (sd 1), .ref (sd 2), .ref (sd 3), .ref (sd 4), .ref (sd 5), .ref (sd 6), .int s_size, .int s_copier, .int s_copyLeft, .int s_tick, .int s_seed, .int s_dropped])), (sd 0, .inl (cyI, 6, .inl s_row)), (sd 1, .inl (cyI, 8, .inl s_has)), (sd 2, .inl (cyI, 8, .inl s_clean))]
set_option maxHeartbeats 4000000 in
set_option maxRecDepth 100000 in
theorem k_X_node (l : Launch) (dC : Nat → ClassId) (dI : Nat → Nat → Nat) (cyB cyI cyJ cyZ cyO : ClassId) (hX : Nat) (xd : Nat → Nat) (x_tapeLength : Int32) (x_at : Int32) (x_top : Int32) (x_lyingCount : Int32) (x_fewest : Int32) (x_time : Int32) (hp : Nat) (pd : Nat → Nat) (p_mC : Int32) (p_nC : Int32) (p_kC : Int32) (p_units : Int32) (p_copy : Int32) (p_loss : Int32) (p_draw : Int32) (hs : Nat) (sd : Nat → Nat) (s_row : Nat → Int32) (s_has : Nat → Int32) (s_clean : Nat → Int32) (s_size : Int32) (s_copier : Int32) (s_copyLeft : Int32) (s_tick : Int32) (s_seed : Int32) (s_dropped : Int32) (x1 : Int32) (x2 : Int32) (hd : Nat) (hR0 : Nat) (hu : Nat) (hT : Nat) (hg : Nat) (hf : Nat) (sz : Nat) (l_x_tapeLength : 0 ≤ x_tapeLength.toInt) (u_x_tapeLength : x_tapeLength.toInt ≤ 1600) (l_x_at : 0 ≤ x_at.toInt) (u_x_at : x_at.toInt ≤ 40) (l_x_top : 0 ≤ x_top.toInt) (u_x_top : x_top.toInt ≤ 40) (l_x_lyingCount : 0 ≤ x_lyingCount.toInt) (u_x_lyingCount : x_lyingCount.toInt ≤ 6) (l_x_time : 0 ≤ x_time.toInt) (u_x_time : x_time.toInt ≤ 100000) (l_p_mC : 0 ≤ p_mC.toInt) (u_p_mC : p_mC.toInt ≤ 6) (l_p_nC : 0 ≤ p_nC.toInt) (u_p_nC : p_nC.toInt ≤ 8) (l_p_kC : 0 ≤ p_kC.toInt) (u_p_kC : p_kC.toInt ≤ 4) (l_p_draw : 0 ≤ p_draw.toInt) (u_p_draw : p_draw.toInt ≤ 999) (l_s_size : 0 ≤ s_size.toInt) (u_s_size : s_size.toInt ≤ 6) (l_s_copier : -1 ≤ s_copier.toInt) (u_s_copier : s_copier.toInt ≤ 7) (l_s_seed : 0 ≤ s_seed.toInt) (u_s_seed : s_seed.toInt ≤ 999) (i0_s_row : In2 s_row 0 6 (0) (7)) (i0_s_has : In2 s_has 0 8 (0) (40)) (i0_s_clean : In2 s_clean 0 8 (0) (40)) : Met l yX6_node wq_k_X_node ({ frames := 1, cells := 0, slots := 0, locals := 22 }) (va_Pc [.ref hX, .int x1, .int x2] (cB (dC, dI) (kT cyB cyI cyJ cyZ cyO) (wc_k_X_node cyB cyI cyJ cyZ cyO hX xd x_tapeLength x_at x_top x_lyingCount x_fewest x_time hp pd p_mC p_nC p_kC p_units p_copy p_loss p_draw hs sd s_row s_has s_clean s_size s_copier s_copyLeft s_tick s_seed s_dropped x1 x2 hd hR0 hu hT hg hf) sz)) (va_Qi (fun (r : Int32) (u : Unit) => (-40 ≤ r.toInt) ∧ (r.toInt ≤ 40)) (fun (u : Unit) t => cE (dC, dI) (va_A (wc_k_X_node cyB cyI cyJ cyZ cyO hX xd x_tapeLength x_at x_top x_lyingCount x_fewest x_time hp pd p_mC p_nC p_kC p_units p_copy p_loss p_draw hs sd s_row s_has s_clean s_size s_copier s_copyLeft s_tick s_seed s_dropped x1 x2 hd hR0 hu hT hg hf) sz) ([(hX, .inr (6, [.ref (xd 0), .int x_tapeLength, .ref hp, .ref hd, .ref hR0, .ref hu, .ref (xd 6), .int x_at, .int x_top, .ref hs, .ref hT, .ref (xd 11), .ref (xd 12), .ref (xd 13), .int x_lyingCount, .ref (xd 15), .int x_fewest, .ref hg, .ref (xd 18), .int x_time])), (hp, .inr (1, [.ref (pd 0), .ref (pd 1), .ref (pd 2), .ref hf, .int p_mC, .int p_nC, .int p_kC, .int p_units, .int p_copy, .int p_loss, .int p_draw])), (hs, .inr (5, [.ref (sd 0), .ref (sd 1), .ref (sd 2), .ref (sd 3), .ref (sd 4), .ref (sd 5), .ref (sd 6), .int s_size, .int s_copier, .int s_copyLeft, .int s_tick, .int s_seed, .int s_dropped])), (sd 0, .inl (cyI, 6, .inl s_row)), (sd 1, .inl (cyI, 8, .inl s_has)), (sd 2, .inl (cyI, 8, .inl s_clean))]) t.heap) (va_A (wc_k_X_node cyB cyI cyJ cyZ cyO hX xd x_tapeLength x_at x_top x_lyingCount x_fewest x_time hp pd p_mC p_nC p_kC p_units p_copy p_loss p_draw hs sd s_row s_has s_clean s_size s_copier s_copyLeft s_tick s_seed s_dropped x1 x2 hd hR0 hu hT hg hf) sz)) 0 0 (va_A (wc_k_X_node cyB cyI cyJ cyZ cyO hX xd x_tapeLength x_at x_top x_lyingCount x_fewest x_time hp pd p_mC p_nC p_kC p_units p_copy p_loss p_draw hs sd s_row s_has s_clean s_size s_copier s_copyLeft s_tick s_seed s_dropped x1 x2 hd hR0 hu hT hg hf) sz) := by
  refine Met.ofW (cc := cX6_node) (maxL := 3) (ret := (some .int)) (by decide) rfl ?_
  intro p e s m args below meth c s₁ B hml hv
  obtain ⟨rfl, hsz, hP, hKN, hD0⟩ := hv
  have hx := B.exec
  have hb := B.bytes
  have hr := B.returns
  have hts := atoms_spec (ws := wq_k_X_node) B.pre
  have hown : s.vm.findClass RX6 = some m.cls := findClass_of_methodNamed B.named
  have hlocks := B.notSynchronized
  have hK := hKN.1
  have hfix : CallFix p m c cX6_node 3 s [.ref hX, .int x1, .int x2].toArray wq_k_X_node RX6 := ⟨hx, hb, hml, hown, hts⟩
  have hi5 : ∀ w ∈ wsX50, w ∈ wq_k_X_node := (sb_c (sb_r (sb_r sb_l)))
  have hi6 : ∀ w ∈ wsX60, w ∈ wq_k_X_node := (sb_c (sb_r (sb_r (sb_r sb_l))))
  subst hsz
  have hD := hD0.self (sz := s.heap.size)
  generalize hAe : va_A (wc_k_X_node cyB cyI cyJ cyZ cyO hX xd x_tapeLength x_at x_top x_lyingCount x_fewest x_time hp pd p_mC p_nC p_kC p_units p_copy p_loss p_draw hs sd s_row s_has s_clean s_size s_copier s_copyLeft s_tick s_seed s_dropped x1 x2 hd hR0 hu hT hg hf) s.heap.size = A at hD ⊢
  have hA : ∀ q : Nat, s.heap.size ≤ q → A q := fun q h => by rw [← hAe]; exact Or.inr h
  have hS : va_S A s.heap s.heap [] := va_S.rf
  have hl := lv_entry ([.ref hX, .int x1, .int x2]) (n := 3) (Nat.le_of_ble_eq_true rfl)
  rw [lg_entry_eq]
  generalize (lg_sl ([.ref hX, .int x1, .int x2]) ++ List.replicate (3 - (lg_sl ([.ref hX, .int x1, .int x2])).length) Slot.unset).toArray = ls at hl ⊢
  have hl : lv_has ls 3 [(0, .ref hX), (1, .int x1), (2, .int x2)] := hl
  have ckm2 : (-2 : Int32).toInt = -2 := by decide
  have ck0 : (0 : Int32).toInt = 0 := by decide
  have ck1 : (1 : Int32).toInt = 1 := by decide
  refine lv_aload_n hx hb dX6_node_0 rfl (lv_at hl 0 rfl) ?_
  refine lv_iload_n hx hb dX6_node_1 rfl (lv_at hl 1 rfl) ?_
  refine gf_i (wr := [(hs, .inr (5, [.ref (sd 0), .ref (sd 1), .ref (sd 2), .ref (sd 3), .ref (sd 4), .ref (sd 5), .ref (sd 6), .int s_size, .int s_copier, .int s_copyLeft, .int s_tick, .int s_seed, .int s_dropped])), (sd 0, .inl (cyI, 6, .inl s_row)), (sd 1, .inl (cyI, 8, .inl s_has)), (sd 2, .inl (cyI, 8, .inl s_clean))]) (va_runV (As := [.int x1]) (rest := []) hfix (k_X_isNode l dC dI cyB cyI cyJ cyZ cyO hX xd x_tapeLength x_at x_top x_lyingCount x_fewest x_time hp pd p_mC p_nC p_kC p_units p_copy p_loss p_draw x1 hd hR0 hu hs hT hg hf _ (by first | omega | assumption) (by first | omega | assumption) (by first | omega | assumption) (by first | omega | assumption) (by first | omega | assumption) (by first | omega | assumption) (by first | omega | assumption) (by first | omega | assumption) (by first | omega | assumption) (by first | omega | assumption) (by first | omega | assumption) (by first | omega | assumption) (by first | omega | assumption) (by first | omega | assumption) (by first | omega | assumption) (by first | omega | assumption) (by first | omega | assumption) (by first | omega | assumption)) (cwV 1 hts (gi_V (ow_m (k := 0) rfl) (ow_m (k := 1) rfl) (ow_m (k := 2) rfl) (ow_m (k := 3) rfl) (sb_c sb_l) gd_k_X_isNode) rfl rfl rfl (by decide +kernel) ⟨Nat.le_of_ble_eq_true rfl, Nat.le_of_ble_eq_true rfl⟩) (g_preV hKN hP hD [0, 1] rfl (by decide) 0 6 rfl rfl) rfl rfl hl.1 rfl (lv_room (Nat.le_of_ble_eq_true rfl)) dX6_node_2 ⟨Nat.le_of_ble_eq_true rfl, Nat.le_of_ble_eq_true rfl⟩) hP hD hS hA [0, 1] [2, 3, 4, 5] rfl rfl (by decide) (by decide) (fun r16899 u16900 H locs qu16900 hP hD hS => ?_)
  have b16901 := qu16900
  have hP : va_P (dC, dI) vwCl [(hs, .inr (5, [.ref (sd 0), .ref (sd 1), .ref (sd 2), .ref (sd 3), .ref (sd 4), .ref (sd 5), .ref (sd 6), .int s_size, .int s_copier, .int s_copyLeft, .int s_tick, .int s_seed, .int s_dropped])), (sd 0, .inl (cyI, 6, .inl s_row)), (sd 1, .inl (cyI, 8, .inl s_has)), (sd 2, .inl (cyI, 8, .inl s_clean)), (hX, .inr (6, [.ref (xd 0), .int x_tapeLength, .ref hp, .ref hd, .ref hR0, .ref hu, .ref (xd 6), .int x_at, .int x_top, .ref hs, .ref hT, .ref (xd 11), .ref (xd 12), .ref (xd 13), .int x_lyingCount, .ref (xd 15), .int x_fewest, .ref hg, .ref (xd 18), .int x_time])), (hp, .inr (1, [.ref (pd 0), .ref (pd 1), .ref (pd 2), .ref hf, .int p_mC, .int p_nC, .int p_kC, .int p_units, .int p_copy, .int p_loss, .int p_draw]))] H := hP
  have hD : va_D A [(hs, .inr (5, [.ref (sd 0), .ref (sd 1), .ref (sd 2), .ref (sd 3), .ref (sd 4), .ref (sd 5), .ref (sd 6), .int s_size, .int s_copier, .int s_copyLeft, .int s_tick, .int s_seed, .int s_dropped])), (sd 0, .inl (cyI, 6, .inl s_row)), (sd 1, .inl (cyI, 8, .inl s_has)), (sd 2, .inl (cyI, 8, .inl s_clean)), (hX, .inr (6, [.ref (xd 0), .int x_tapeLength, .ref hp, .ref hd, .ref hR0, .ref hu, .ref (xd 6), .int x_at, .int x_top, .ref hs, .ref hT, .ref (xd 11), .ref (xd 12), .ref (xd 13), .int x_lyingCount, .ref (xd 15), .int x_fewest, .ref hg, .ref (xd 18), .int x_time])), (hp, .inr (1, [.ref (pd 0), .ref (pd 1), .ref (pd 2), .ref hf, .int p_mC, .int p_nC, .int p_kC, .int p_units, .int p_copy, .int p_loss, .int p_draw]))] := hD
  rcases b16901 with ⟨rfl, b16902, b16903, b16904⟩ | rfl
  · skip
    refine lv_if_ne (tgt := 11) hx hb dX6_node_5 (by decide) (fun _ => ?_) (fun c16905 => absurd c16905 (by decide))
    refine lv_iload_n hx hb dX6_node_11 rfl (lv_at hl 2 rfl) ?_
    by_cases c16906 : x2 = 0
    · have c16906i := i_eq (b := 0) c16906 rfl (by decide)
      refine lv_tableIn (tgt := 48) hx hb dX6_node_12 (by rw [c16906]; decide) (by rw [c16906]; decide) (by first | (rw [c16906]; done) | (rw [c16906]; rfl)) (by decide) ?_
      refine lv_aload_n hx hb dX6_node_48 rfl (lv_at hl 0 rfl) ?_
      refine va_get (D := (dC, dI)) (ci := 6) (v := .ref hs) (C := RX6) (T := TX6) (N := 20) hx hb hts hi6 hown hK hP 4 rfl rfl 9 (by decide) (hts _ (ow_m (k := 4) rfl)) (fun _ h9 => h9) rfl dX6_node_49 ?_
      refine lv_iload_n hx hb dX6_node_52 rfl (lv_at hl 1 rfl) ?_
      refine gf_i (wr := [(sd 1, .inl (cyI, 8, .inl s_has)), (sd 2, .inl (cyI, 8, .inl s_clean)), (hX, .inr (6, [.ref (xd 0), .int x_tapeLength, .ref hp, .ref hd, .ref hR0, .ref hu, .ref (xd 6), .int x_at, .int x_top, .ref hs, .ref hT, .ref (xd 11), .ref (xd 12), .ref (xd 13), .int x_lyingCount, .ref (xd 15), .int x_fewest, .ref hg, .ref (xd 18), .int x_time])), (hp, .inr (1, [.ref (pd 0), .ref (pd 1), .ref (pd 2), .ref hf, .int p_mC, .int p_nC, .int p_kC, .int p_units, .int p_copy, .int p_loss, .int p_draw]))]) (va_runV (As := [.int x1]) (rest := []) hfix (k_St_placeOf l dC dI cyB cyI cyJ cyZ cyO hs sd s_row s_size s_copier s_copyLeft s_tick s_seed s_dropped x1 _ (by first | omega | assumption) (by first | omega | assumption) (by first | omega | assumption) (by first | omega | assumption) (by first | omega | assumption) (by first | omega | assumption) i0_s_row) (cwV 1 hts (gi_V (ow_m (k := 5) rfl) (ow_m (k := 6) rfl) (ow_m (k := 7) rfl) (ow_m (k := 8) rfl) (sb_c (sb_r sb_l)) gd_k_St_placeOf) rfl rfl rfl (by decide +kernel) ⟨Nat.le_of_ble_eq_true rfl, Nat.le_of_ble_eq_true rfl⟩) (g_preV hKN hP hD [0, 1] rfl (by decide) 0 5 rfl rfl) rfl rfl hl.1 rfl (lv_room (Nat.le_of_ble_eq_true rfl)) dX6_node_53 ⟨Nat.le_of_ble_eq_true rfl, Nat.le_of_ble_eq_true rfl⟩) hP hD hS hA [0, 1] [2, 3, 4, 5] rfl rfl (by decide) (by decide) (fun r16907 u16908 H locs qu16908 hP hD hS => ?_)
      obtain ⟨b16909, b16910, b16911, b16912⟩ := qu16908
      have hP : va_P (dC, dI) vwCl [(sd 1, .inl (cyI, 8, .inl s_has)), (sd 2, .inl (cyI, 8, .inl s_clean)), (hX, .inr (6, [.ref (xd 0), .int x_tapeLength, .ref hp, .ref hd, .ref hR0, .ref hu, .ref (xd 6), .int x_at, .int x_top, .ref hs, .ref hT, .ref (xd 11), .ref (xd 12), .ref (xd 13), .int x_lyingCount, .ref (xd 15), .int x_fewest, .ref hg, .ref (xd 18), .int x_time])), (hp, .inr (1, [.ref (pd 0), .ref (pd 1), .ref (pd 2), .ref hf, .int p_mC, .int p_nC, .int p_kC, .int p_units, .int p_copy, .int p_loss, .int p_draw])), (hs, .inr (5, [.ref (sd 0), .ref (sd 1), .ref (sd 2), .ref (sd 3), .ref (sd 4), .ref (sd 5), .ref (sd 6), .int s_size, .int s_copier, .int s_copyLeft, .int s_tick, .int s_seed, .int s_dropped])), (sd 0, .inl (cyI, 6, .inl s_row))] H := hP
      have hD : va_D A [(sd 1, .inl (cyI, 8, .inl s_has)), (sd 2, .inl (cyI, 8, .inl s_clean)), (hX, .inr (6, [.ref (xd 0), .int x_tapeLength, .ref hp, .ref hd, .ref hR0, .ref hu, .ref (xd 6), .int x_at, .int x_top, .ref hs, .ref hT, .ref (xd 11), .ref (xd 12), .ref (xd 13), .int x_lyingCount, .ref (xd 15), .int x_fewest, .ref hg, .ref (xd 18), .int x_time])), (hp, .inr (1, [.ref (pd 0), .ref (pd 1), .ref (pd 2), .ref hf, .int p_mC, .int p_nC, .int p_kC, .int p_units, .int p_copy, .int p_loss, .int p_draw])), (hs, .inr (5, [.ref (sd 0), .ref (sd 1), .ref (sd 2), .ref (sd 3), .ref (sd 4), .ref (sd 5), .ref (sd 6), .int s_size, .int s_copier, .int s_copyLeft, .int s_tick, .int s_seed, .int s_dropped])), (sd 0, .inl (cyI, 6, .inl s_row))] := hD
      have w16913 : -40 ≤ r16907.toInt := by first | omega | assumption | rfl
      have w16914 : r16907.toInt ≤ 40 := by first | omega | assumption | rfl
      exact W.iret (v := r16907) hx hb hr (fun t ht hW => ⟨⟨r16907, (), rfl, ⟨w16913, w16914⟩, cE.of ht hP hD [2, 3, 4, 5, 0, 1] (by decide) rfl⟩, hS.F ht⟩) hS.2.2 dX6_node_56
    have c16906i := i_ne (b := 0) c16906 rfl (by decide)
    by_cases c16915 : x2 = 1
    · have c16915i := i_eq (b := 1) c16915 rfl (by decide)
      refine lv_tableIn (tgt := 57) hx hb dX6_node_12 (by rw [c16915]; decide) (by rw [c16915]; decide) (by first | (rw [c16915]; done) | (rw [c16915]; rfl)) (by decide) ?_
      refine lv_aload_n hx hb dX6_node_57 rfl (lv_at hl 0 rfl) ?_
      refine va_get (D := (dC, dI)) (ci := 6) (v := .ref hs) (C := RX6) (T := TX6) (N := 20) hx hb hts hi6 hown hK hP 4 rfl rfl 9 (by decide) (hts _ (ow_m (k := 4) rfl)) (fun _ h9 => h9) rfl dX6_node_58 ?_
      refine va_get (D := (dC, dI)) (ci := 5) (v := .ref (sd 1)) (C := RX5) (T := TX5) (N := 13) hx hb hts hi5 hown hK hP 0 rfl rfl 1 (by decide) (hts _ (ow_m (k := 9) rfl)) (fun _ h9 => h9) rfl dX6_node_61 ?_
      refine lv_iload_n hx hb dX6_node_64 rfl (lv_at hl 1 rfl) ?_
      refine va_iald hx hb hK hP 2 1 rfl rfl (vp_i rfl (by omega) (by omega)) dX6_node_65 ?_
      refine lv_topi (fun z16916 ez16916 => ?_)
      have tz16916 := i0_s_has.at (x := x1.toInt) ez16916 rfl (by omega) (by omega)
      have w16917 : -40 ≤ z16916.toInt := by first | omega | assumption | rfl
      have w16918 : z16916.toInt ≤ 40 := by first | omega | assumption | rfl
      exact W.iret (v := z16916) hx hb hr (fun t ht hW => ⟨⟨z16916, (), rfl, ⟨w16917, w16918⟩, cE.of ht hP hD [4, 5, 0, 1, 2, 3] (by decide) rfl⟩, hS.F ht⟩) hS.2.2 dX6_node_66
    have c16915i := i_ne (b := 1) c16915 rfl (by decide)
    by_cases c16919 : x2 = 2
    · have c16919i := i_eq (b := 2) c16919 rfl (by decide)
      refine lv_tableIn (tgt := 67) hx hb dX6_node_12 (by rw [c16919]; decide) (by rw [c16919]; decide) (by first | (rw [c16919]; done) | (rw [c16919]; rfl)) (by decide) ?_
      refine lv_aload_n hx hb dX6_node_67 rfl (lv_at hl 0 rfl) ?_
      refine va_get (D := (dC, dI)) (ci := 6) (v := .ref hs) (C := RX6) (T := TX6) (N := 20) hx hb hts hi6 hown hK hP 4 rfl rfl 9 (by decide) (hts _ (ow_m (k := 4) rfl)) (fun _ h9 => h9) rfl dX6_node_68 ?_
      refine va_get (D := (dC, dI)) (ci := 5) (v := .ref (sd 2)) (C := RX5) (T := TX5) (N := 13) hx hb hts hi5 hown hK hP 0 rfl rfl 2 (by decide) (hts _ (ow_m (k := 10) rfl)) (fun _ h9 => h9) rfl dX6_node_71 ?_
      refine lv_iload_n hx hb dX6_node_74 rfl (lv_at hl 1 rfl) ?_
      refine va_iald hx hb hK hP 3 1 rfl rfl (vp_i rfl (by omega) (by omega)) dX6_node_75 ?_
      refine lv_topi (fun z16920 ez16920 => ?_)
      have tz16920 := i0_s_clean.at (x := x1.toInt) ez16920 rfl (by omega) (by omega)
      have w16921 : -40 ≤ z16920.toInt := by first | omega | assumption | rfl
      have w16922 : z16920.toInt ≤ 40 := by first | omega | assumption | rfl
      exact W.iret (v := z16920) hx hb hr (fun t ht hW => ⟨⟨z16920, (), rfl, ⟨w16921, w16922⟩, cE.of ht hP hD [4, 5, 0, 1, 2, 3] (by decide) rfl⟩, hS.F ht⟩) hS.2.2 dX6_node_76
    have c16919i := i_ne (b := 2) c16919 rfl (by decide)
    by_cases c16923 : x2 = 3
    · have c16923i := i_eq (b := 3) c16923 rfl (by decide)
      refine lv_tableIn (tgt := 77) hx hb dX6_node_12 (by rw [c16923]; decide) (by rw [c16923]; decide) (by first | (rw [c16923]; done) | (rw [c16923]; rfl)) (by decide) ?_
      refine lv_aload_n hx hb dX6_node_77 rfl (lv_at hl 0 rfl) ?_
      refine va_get (D := (dC, dI)) (ci := 6) (v := .ref hs) (C := RX6) (T := TX6) (N := 20) hx hb hts hi6 hown hK hP 4 rfl rfl 9 (by decide) (hts _ (ow_m (k := 4) rfl)) (fun _ h9 => h9) rfl dX6_node_78 ?_
      refine va_get (D := (dC, dI)) (ci := 5) (v := .ref (sd 1)) (C := RX5) (T := TX5) (N := 13) hx hb hts hi5 hown hK hP 0 rfl rfl 1 (by decide) (hts _ (ow_m (k := 9) rfl)) (fun _ h9 => h9) rfl dX6_node_81 ?_
      refine lv_iload_n hx hb dX6_node_84 rfl (lv_at hl 1 rfl) ?_
      refine va_iald hx hb hK hP 2 1 rfl rfl (vp_i rfl (by omega) (by omega)) dX6_node_85 ?_
      refine lv_topi (fun z16924 ez16924 => ?_)
      have tz16924 := i0_s_has.at (x := x1.toInt) ez16924 rfl (by omega) (by omega)
      refine lv_aload_n hx hb dX6_node_86 rfl (lv_at hl 0 rfl) ?_
      refine va_get (D := (dC, dI)) (ci := 6) (v := .ref hs) (C := RX6) (T := TX6) (N := 20) hx hb hts hi6 hown hK hP 4 rfl rfl 9 (by decide) (hts _ (ow_m (k := 4) rfl)) (fun _ h9 => h9) rfl dX6_node_87 ?_
      refine va_get (D := (dC, dI)) (ci := 5) (v := .ref (sd 2)) (C := RX5) (T := TX5) (N := 13) hx hb hts hi5 hown hK hP 0 rfl rfl 2 (by decide) (hts _ (ow_m (k := 10) rfl)) (fun _ h9 => h9) rfl dX6_node_90 ?_
      refine lv_iload_n hx hb dX6_node_93 rfl (lv_at hl 1 rfl) ?_
      refine va_iald hx hb hK hP 3 1 rfl rfl (vp_i rfl (by omega) (by omega)) dX6_node_94 ?_
      refine lv_topi (fun z16925 ez16925 => ?_)
      have tz16925 := i0_s_clean.at (x := x1.toInt) ez16925 rfl (by omega) (by omega)
      refine lv_isub hx hb dX6_node_95 ?_
      refine lv_topi (fun z16926 ez16926 => ?_)
      have tz16926 := ti_sub (a := z16924.toInt) (b := z16925.toInt) ez16926 rfl rfl (by omega) (by omega)
      have w16927 : -40 ≤ z16926.toInt := by first | omega | assumption | rfl
      have w16928 : z16926.toInt ≤ 40 := by first | omega | assumption | rfl
      exact W.iret (v := z16926) hx hb hr (fun t ht hW => ⟨⟨z16926, (), rfl, ⟨w16927, w16928⟩, cE.of ht hP hD [4, 5, 0, 1, 2, 3] (by decide) rfl⟩, hS.F ht⟩) hS.2.2 dX6_node_96
    have c16923i := i_ne (b := 3) c16923 rfl (by decide)
    by_cases c16929 : x2 = 4
    · have c16929i := i_eq (b := 4) c16929 rfl (by decide)
      refine lv_tableIn (tgt := 97) hx hb dX6_node_12 (by rw [c16929]; decide) (by rw [c16929]; decide) (by first | (rw [c16929]; done) | (rw [c16929]; rfl)) (by decide) ?_
      refine lv_aload_n hx hb dX6_node_97 rfl (lv_at hl 0 rfl) ?_
      refine va_get (D := (dC, dI)) (ci := 6) (v := .ref hs) (C := RX6) (T := TX6) (N := 20) hx hb hts hi6 hown hK hP 4 rfl rfl 9 (by decide) (hts _ (ow_m (k := 4) rfl)) (fun _ h9 => h9) rfl dX6_node_98 ?_
      refine va_get (D := (dC, dI)) (ci := 5) (v := .int s_copier) (C := RX5) (T := TX5) (N := 13) hx hb hts hi5 hown hK hP 0 rfl rfl 8 (by decide) (hts _ (ow_m (k := 11) rfl)) (fun _ h9 => h9) rfl dX6_node_101 ?_
      refine lv_iload_n hx hb dX6_node_104 rfl (lv_at hl 1 rfl) ?_
      refine lv_icmp_ne (tgt := 112) hx hb dX6_node_105 (by decide) (fun c16930 => ?_) (fun c16930 => ?_)
      · have c16930 := i_ne (a := s_copier.toInt) (b := x1.toInt) c16930 rfl rfl
        refine lv_iconst (v := 0) hx hb dX6_node_112 (by decide) ?_
        have w16931 : -40 ≤ (0 : Int32).toInt := by first | omega | assumption | rfl
        have w16932 : (0 : Int32).toInt ≤ 40 := by first | omega | assumption | rfl
        exact W.iret (v := 0) hx hb hr (fun t ht hW => ⟨⟨0, (), rfl, ⟨w16931, w16932⟩, cE.of ht hP hD [4, 5, 0, 1, 2, 3] (by decide) rfl⟩, hS.F ht⟩) hS.2.2 dX6_node_113
      · have c16930 := i_eq (a := s_copier.toInt) (b := x1.toInt) c16930 rfl rfl
        refine lv_iconst (v := 1) hx hb dX6_node_108 (by decide) ?_
        refine lv_goto (tgt := 113) hx hb dX6_node_109 (by decide) ?_
        have w16933 : -40 ≤ (1 : Int32).toInt := by first | omega | assumption | rfl
        have w16934 : (1 : Int32).toInt ≤ 40 := by first | omega | assumption | rfl
        exact W.iret (v := 1) hx hb hr (fun t ht hW => ⟨⟨1, (), rfl, ⟨w16933, w16934⟩, cE.of ht hP hD [4, 5, 0, 1, 2, 3] (by decide) rfl⟩, hS.F ht⟩) hS.2.2 dX6_node_113
    have c16929i := i_ne (b := 4) c16929 rfl (by decide)
    refine lv_tableOut (tgt := 114) hx hb dX6_node_12 (by omega) (by decide) ?_
    refine lv_bipush (v := (-2)) hx hb dX6_node_114 (by decide) ?_
    have w16935 : -40 ≤ (-2 : Int32).toInt := by first | omega | assumption | rfl
    have w16936 : (-2 : Int32).toInt ≤ 40 := by first | omega | assumption | rfl
    exact W.iret (v := (-2)) hx hb hr (fun t ht hW => ⟨⟨(-2), (), rfl, ⟨w16935, w16936⟩, cE.of ht hP hD [4, 5, 0, 1, 2, 3] (by decide) rfl⟩, hS.F ht⟩) hS.2.2 dX6_node_116
  · skip
    refine lv_if_ne (tgt := 11) hx hb dX6_node_5 (by decide) (fun c16937 => absurd (by decide) c16937) (fun _ => ?_)
    refine lv_bipush (v := (-2)) hx hb dX6_node_8 (by decide) ?_
    have w16938 : -40 ≤ (-2 : Int32).toInt := by first | omega | assumption | rfl
    have w16939 : (-2 : Int32).toInt ≤ 40 := by first | omega | assumption | rfl
    exact W.iret (v := (-2)) hx hb hr (fun t ht hW => ⟨⟨(-2), (), rfl, ⟨w16938, w16939⟩, cE.of ht hP hD [4, 5, 0, 1, 2, 3] (by decide) rfl⟩, hS.F ht⟩) hS.2.2 dX6_node_10
def wo_k_X_isLink : List Cond := [.fieldLink RX6 110 "ReplicaChain" "now" "LReplicaChain$State;", .fieldLink RX6 157 "ReplicaChain$State" "size" "I"]
def wq_k_X_isLink : List Cond := .code yX6_isLink cX6_isLink 3 (some .boolean) :: (wo_k_X_isLink ++ (wsX50 ++ (wsX60 ++ [])))
theorem gd_k_X_isLink : Gd wq_k_X_isLink := gd_c (gd_a (gd_o (by decide +kernel)) (gd_a gd_u (gd_a gd_u gd_0)))
abbrev wc_k_X_isLink (cyB cyI cyJ cyZ cyO : ClassId) (hX : Nat) (xd : Nat → Nat) (x_tapeLength : Int32) (x_at : Int32) (x_top : Int32) (x_lyingCount : Int32) (x_fewest : Int32) (x_time : Int32) (hs : Nat) (sd : Nat → Nat) (s_size : Int32) (s_copier : Int32) (s_copyLeft : Int32) (s_tick : Int32) (s_seed : Int32) (s_dropped : Int32) (x1 : Int32) (x2 : Int32) (hp : Nat) (hd : Nat) (hR0 : Nat) (hu : Nat) (hT : Nat) (hg : Nat) : va_W := [(hX, .inr (6, [.ref (xd 0), .int x_tapeLength, .ref hp, .ref hd, .ref hR0, .ref hu, .ref (xd 6), .int x_at, .int x_top, .ref hs, .ref hT, .ref (xd 11), .ref (xd 12), .ref (xd 13), .int x_lyingCount, .ref (xd 15), .int x_fewest, .ref hg, .ref (xd 18), .int x_time])), (hs, .inr (5, [.ref (sd 0), .ref (sd 1), .ref (sd 2), .ref (sd 3), .ref (sd 4), .ref (sd 5), .ref (sd 6), .int s_size, .int s_copier, .int s_copyLeft, .int s_tick, .int s_seed, .int s_dropped]))]
set_option maxHeartbeats 4000000 in
set_option maxRecDepth 100000 in
theorem k_X_isLink (l : Launch) (dC : Nat → ClassId) (dI : Nat → Nat → Nat) (cyB cyI cyJ cyZ cyO : ClassId) (hX : Nat) (xd : Nat → Nat) (x_tapeLength : Int32) (x_at : Int32) (x_top : Int32) (x_lyingCount : Int32) (x_fewest : Int32) (x_time : Int32) (hs : Nat) (sd : Nat → Nat) (s_size : Int32) (s_copier : Int32) (s_copyLeft : Int32) (s_tick : Int32) (s_seed : Int32) (s_dropped : Int32) (x1 : Int32) (x2 : Int32) (hp : Nat) (hd : Nat) (hR0 : Nat) (hu : Nat) (hT : Nat) (hg : Nat) (sz : Nat) (l_x_tapeLength : 0 ≤ x_tapeLength.toInt) (u_x_tapeLength : x_tapeLength.toInt ≤ 1600) (l_x_at : 0 ≤ x_at.toInt) (u_x_at : x_at.toInt ≤ 40) (l_x_top : 0 ≤ x_top.toInt) (u_x_top : x_top.toInt ≤ 40) (l_x_lyingCount : 0 ≤ x_lyingCount.toInt) (u_x_lyingCount : x_lyingCount.toInt ≤ 6) (l_x_time : 0 ≤ x_time.toInt) (u_x_time : x_time.toInt ≤ 100000) (l_s_size : 0 ≤ s_size.toInt) (u_s_size : s_size.toInt ≤ 6) (l_s_copier : -1 ≤ s_copier.toInt) (u_s_copier : s_copier.toInt ≤ 7) (l_s_seed : 0 ≤ s_seed.toInt) (u_s_seed : s_seed.toInt ≤ 999) : Met l yX6_isLink wq_k_X_isLink ({ frames := 0, cells := 0, slots := 0, locals := 0 }) (va_Pc [.ref hX, .int x1, .int x2] (cB (dC, dI) (kT cyB cyI cyJ cyZ cyO) (wc_k_X_isLink cyB cyI cyJ cyZ cyO hX xd x_tapeLength x_at x_top x_lyingCount x_fewest x_time hs sd s_size s_copier s_copyLeft s_tick s_seed s_dropped x1 x2 hp hd hR0 hu hT hg) sz)) (va_Qi (fun (r : Int32) (u : Unit) => (((r = 1 ∧ (0 ≤ x1.toInt) ∧ (x1.toInt + 1 < s_size.toInt) ∧ (x1.toInt ≤ 4) ∧ (0 ≤ x2.toInt) ∧ (x2.toInt ≤ 1)) ∨ (r = 0)))) (fun (u : Unit) t => cE (dC, dI) (va_A (wc_k_X_isLink cyB cyI cyJ cyZ cyO hX xd x_tapeLength x_at x_top x_lyingCount x_fewest x_time hs sd s_size s_copier s_copyLeft s_tick s_seed s_dropped x1 x2 hp hd hR0 hu hT hg) sz) ([(hX, .inr (6, [.ref (xd 0), .int x_tapeLength, .ref hp, .ref hd, .ref hR0, .ref hu, .ref (xd 6), .int x_at, .int x_top, .ref hs, .ref hT, .ref (xd 11), .ref (xd 12), .ref (xd 13), .int x_lyingCount, .ref (xd 15), .int x_fewest, .ref hg, .ref (xd 18), .int x_time])), (hs, .inr (5, [.ref (sd 0), .ref (sd 1), .ref (sd 2), .ref (sd 3), .ref (sd 4), .ref (sd 5), .ref (sd 6), .int s_size, .int s_copier, .int s_copyLeft, .int s_tick, .int s_seed, .int s_dropped]))]) t.heap) (va_A (wc_k_X_isLink cyB cyI cyJ cyZ cyO hX xd x_tapeLength x_at x_top x_lyingCount x_fewest x_time hs sd s_size s_copier s_copyLeft s_tick s_seed s_dropped x1 x2 hp hd hR0 hu hT hg) sz)) 0 0 (va_A (wc_k_X_isLink cyB cyI cyJ cyZ cyO hX xd x_tapeLength x_at x_top x_lyingCount x_fewest x_time hs sd s_size s_copier s_copyLeft s_tick s_seed s_dropped x1 x2 hp hd hR0 hu hT hg) sz) := by
  refine Met.ofW (cc := cX6_isLink) (maxL := 3) (ret := (some .boolean)) (by decide) rfl ?_
  intro p e s m args below meth c s₁ B hml hv
  obtain ⟨rfl, hsz, hP, hKN, hD0⟩ := hv
  have hx := B.exec
  have hb := B.bytes
  have hr := B.returns
  have hts := atoms_spec (ws := wq_k_X_isLink) B.pre
  have hown : s.vm.findClass RX6 = some m.cls := findClass_of_methodNamed B.named
  have hlocks := B.notSynchronized
  have hK := hKN.1
  have hfix : CallFix p m c cX6_isLink 3 s [.ref hX, .int x1, .int x2].toArray wq_k_X_isLink RX6 := ⟨hx, hb, hml, hown, hts⟩
  have hi5 : ∀ w ∈ wsX50, w ∈ wq_k_X_isLink := (sb_c sb_l)
  have hi6 : ∀ w ∈ wsX60, w ∈ wq_k_X_isLink := (sb_c (sb_r sb_l))
  subst hsz
  have hD := hD0.self (sz := s.heap.size)
  generalize hAe : va_A (wc_k_X_isLink cyB cyI cyJ cyZ cyO hX xd x_tapeLength x_at x_top x_lyingCount x_fewest x_time hs sd s_size s_copier s_copyLeft s_tick s_seed s_dropped x1 x2 hp hd hR0 hu hT hg) s.heap.size = A at hD ⊢
  have hA : ∀ q : Nat, s.heap.size ≤ q → A q := fun q h => by rw [← hAe]; exact Or.inr h
  have hS : va_S A s.heap s.heap [] := va_S.rf
  have hl := lv_entry ([.ref hX, .int x1, .int x2]) (n := 3) (Nat.le_of_ble_eq_true rfl)
  rw [lg_entry_eq]
  generalize (lg_sl ([.ref hX, .int x1, .int x2]) ++ List.replicate (3 - (lg_sl ([.ref hX, .int x1, .int x2])).length) Slot.unset).toArray = ls at hl ⊢
  have hl : lv_has ls 3 [(0, .ref hX), (1, .int x1), (2, .int x2)] := hl
  refine lv_iload_n hx hb dX6_isLink_0 rfl (lv_at hl 1 rfl) ?_
  refine lv_if_lt (tgt := 30) hx hb dX6_isLink_1 (by decide) (fun c16950 => ?_) (fun c16950 => ?_)
  · have c16950 := i_lt (a := x1.toInt) (b := 0) c16950 rfl (by decide)
    refine lv_iconst (v := 0) hx hb dX6_isLink_30 (by decide) ?_
    exact W.zret (v := 0) hx hb hr (by decide) (fun t ht hW => ⟨⟨0, (), rfl, (Or.inr rfl), cE.of ht hP hD [0, 1] (by decide) rfl⟩, hS.F ht⟩) hS.2.2 dX6_isLink_31
  · have c16950 := i_nlt (a := x1.toInt) (b := 0) c16950 rfl (by decide)
    refine lv_iload_n hx hb dX6_isLink_4 rfl (lv_at hl 1 rfl) ?_
    refine lv_aload_n hx hb dX6_isLink_5 rfl (lv_at hl 0 rfl) ?_
    refine va_get (D := (dC, dI)) (ci := 6) (v := .ref hs) (C := RX6) (T := TX6) (N := 20) hx hb hts hi6 hown hK hP 0 rfl rfl 9 (by decide) (hts _ (ow_m (k := 0) rfl)) (fun _ h9 => h9) rfl dX6_isLink_6 ?_
    refine va_get (D := (dC, dI)) (ci := 5) (v := .int s_size) (C := RX5) (T := TX5) (N := 13) hx hb hts hi5 hown hK hP 1 rfl rfl 7 (by decide) (hts _ (ow_m (k := 1) rfl)) (fun _ h9 => h9) rfl dX6_isLink_9 ?_
    refine lv_iconst (v := 1) hx hb dX6_isLink_12 (by decide) ?_
    refine lv_isub hx hb dX6_isLink_13 ?_
    refine lv_topi (fun z16951 ez16951 => ?_)
    have tz16951 := ti_sub (a := s_size.toInt) (b := 1) ez16951 rfl (by decide) (by omega) (by omega)
    refine lv_icmp_ge (tgt := 30) hx hb dX6_isLink_14 (by decide) (fun c16952 => ?_) (fun c16952 => ?_)
    · have c16952 := i_le (a := z16951.toInt) (b := x1.toInt) c16952 rfl rfl
      refine lv_iconst (v := 0) hx hb dX6_isLink_30 (by decide) ?_
      exact W.zret (v := 0) hx hb hr (by decide) (fun t ht hW => ⟨⟨0, (), rfl, (Or.inr rfl), cE.of ht hP hD [0, 1] (by decide) rfl⟩, hS.F ht⟩) hS.2.2 dX6_isLink_31
    · have c16952 := i_nle (a := z16951.toInt) (b := x1.toInt) c16952 rfl rfl
      refine lv_iload_n hx hb dX6_isLink_17 rfl (lv_at hl 2 rfl) ?_
      refine lv_if_eq (tgt := 26) hx hb dX6_isLink_18 (by decide) (fun c16953 => ?_) (fun c16953 => ?_)
      · have c16953 := i_eq (a := x2.toInt) (b := 0) c16953 rfl (by decide)
        refine lv_iconst (v := 1) hx hb dX6_isLink_26 (by decide) ?_
        refine lv_goto (tgt := 31) hx hb dX6_isLink_27 (by decide) ?_
        have w16954 : 0 ≤ x1.toInt := by first | omega | assumption | rfl
        have w16955 : x1.toInt + 1 < s_size.toInt := by first | omega | assumption | rfl
        have w16956 : x1.toInt ≤ 4 := by first | omega | assumption | rfl
        have w16957 : 0 ≤ x2.toInt := by first | omega | assumption | rfl
        have w16958 : x2.toInt ≤ 1 := by first | omega | assumption | rfl
        exact W.zret (v := 1) hx hb hr (by decide) (fun t ht hW => ⟨⟨1, (), rfl, (Or.inl ⟨rfl, w16954, w16955, w16956, w16957, w16958⟩), cE.of ht hP hD [0, 1] (by decide) rfl⟩, hS.F ht⟩) hS.2.2 dX6_isLink_31
      · have c16953 := i_ne (a := x2.toInt) (b := 0) c16953 rfl (by decide)
        refine lv_iload_n hx hb dX6_isLink_21 rfl (lv_at hl 2 rfl) ?_
        refine lv_iconst (v := 1) hx hb dX6_isLink_22 (by decide) ?_
        refine lv_icmp_ne (tgt := 30) hx hb dX6_isLink_23 (by decide) (fun c16959 => ?_) (fun c16959 => ?_)
        · have c16959 := i_ne (a := x2.toInt) (b := 1) c16959 rfl (by decide)
          refine lv_iconst (v := 0) hx hb dX6_isLink_30 (by decide) ?_
          exact W.zret (v := 0) hx hb hr (by decide) (fun t ht hW => ⟨⟨0, (), rfl, (Or.inr rfl), cE.of ht hP hD [0, 1] (by decide) rfl⟩, hS.F ht⟩) hS.2.2 dX6_isLink_31
        · have c16959 := i_eq (a := x2.toInt) (b := 1) c16959 rfl (by decide)
          refine lv_iconst (v := 1) hx hb dX6_isLink_26 (by decide) ?_
          refine lv_goto (tgt := 31) hx hb dX6_isLink_27 (by decide) ?_
          have w16960 : 0 ≤ x1.toInt := by first | omega | assumption | rfl
          have w16961 : x1.toInt + 1 < s_size.toInt := by first | omega | assumption | rfl
          have w16962 : x1.toInt ≤ 4 := by first | omega | assumption | rfl
          have w16963 : 0 ≤ x2.toInt := by first | omega | assumption | rfl
          have w16964 : x2.toInt ≤ 1 := by first | omega | assumption | rfl
          exact W.zret (v := 1) hx hb hr (by decide) (fun t ht hW => ⟨⟨1, (), rfl, (Or.inl ⟨rfl, w16960, w16961, w16962, w16963, w16964⟩), cE.of ht hP hD [0, 1] (by decide) rfl⟩, hS.F ht⟩) hS.2.2 dX6_isLink_31
def wo_k_X_under : List Cond := [.methodLink RX6 185 yX6_isLink, .instanceMethod yX6_isLink, .selects RX6 yX6_isLink yX6_isLink, .initialized RX6, .fieldLink RX6 110 "ReplicaChain" "now" "LReplicaChain$State;", .methodLink RX6 189 yX5_underWay, .instanceMethod yX5_underWay, .selects RX5 yX5_underWay yX5_underWay, .initialized RX5]
def wq_k_X_under : List Cond := .code yX6_under cX6_under 3 (some .int) :: (wo_k_X_under ++ (wq_k_X_isLink ++ (wq_k_St_underWay2 ++ (wsX60 ++ []))))
theorem gd_k_X_under : Gd wq_k_X_under := gd_c (gd_a (gd_o (by decide +kernel)) (gd_a gd_k_X_isLink (gd_a gd_k_St_underWay2 (gd_a gd_u gd_0))))
abbrev wc_k_X_under (cyB cyI cyJ cyZ cyO : ClassId) (hX : Nat) (xd : Nat → Nat) (x_tapeLength : Int32) (x_at : Int32) (x_top : Int32) (x_lyingCount : Int32) (x_fewest : Int32) (x_time : Int32) (hs : Nat) (sd : Nat → Nat) (s_row : Nat → Int32) (s_has : Nat → Int32) (s_clean : Nat → Int32) (s_size : Int32) (s_copier : Int32) (s_copyLeft : Int32) (s_tick : Int32) (s_seed : Int32) (s_dropped : Int32) (x1 : Int32) (x2 : Int32) (hp : Nat) (hd : Nat) (hR0 : Nat) (hu : Nat) (hT : Nat) (hg : Nat) : va_W := [(hX, .inr (6, [.ref (xd 0), .int x_tapeLength, .ref hp, .ref hd, .ref hR0, .ref hu, .ref (xd 6), .int x_at, .int x_top, .ref hs, .ref hT, .ref (xd 11), .ref (xd 12), .ref (xd 13), .int x_lyingCount, .ref (xd 15), .int x_fewest, .ref hg, .ref (xd 18), .int x_time])), (hs, .inr (5, [.ref (sd 0), .ref (sd 1), .ref (sd 2), .ref (sd 3), .ref (sd 4), .ref (sd 5), .ref (sd 6), .int s_size, .int s_copier, .int s_copyLeft, .int s_tick, .int s_seed, .int s_dropped])), (sd 0, .inl (cyI, 6, .inl s_row)), (sd 1, .inl (cyI, 8, .inl s_has)), (sd 2, .inl (cyI, 8, .inl s_clean))]
set_option maxHeartbeats 4000000 in
set_option maxRecDepth 100000 in
theorem k_X_under (l : Launch) (dC : Nat → ClassId) (dI : Nat → Nat → Nat) (cyB cyI cyJ cyZ cyO : ClassId) (hX : Nat) (xd : Nat → Nat) (x_tapeLength : Int32) (x_at : Int32) (x_top : Int32) (x_lyingCount : Int32) (x_fewest : Int32) (x_time : Int32) (hs : Nat) (sd : Nat → Nat) (s_row : Nat → Int32) (s_has : Nat → Int32) (s_clean : Nat → Int32) (s_size : Int32) (s_copier : Int32) (s_copyLeft : Int32) (s_tick : Int32) (s_seed : Int32) (s_dropped : Int32) (x1 : Int32) (x2 : Int32) (hp : Nat) (hd : Nat) (hR0 : Nat) (hu : Nat) (hT : Nat) (hg : Nat) (sz : Nat) (l_x_tapeLength : 0 ≤ x_tapeLength.toInt) (u_x_tapeLength : x_tapeLength.toInt ≤ 1600) (l_x_at : 0 ≤ x_at.toInt) (u_x_at : x_at.toInt ≤ 40) (l_x_top : 0 ≤ x_top.toInt) (u_x_top : x_top.toInt ≤ 40) (l_x_lyingCount : 0 ≤ x_lyingCount.toInt) (u_x_lyingCount : x_lyingCount.toInt ≤ 6) (l_x_time : 0 ≤ x_time.toInt) (u_x_time : x_time.toInt ≤ 100000) (l_s_size : 0 ≤ s_size.toInt) (u_s_size : s_size.toInt ≤ 6) (l_s_copier : -1 ≤ s_copier.toInt) (u_s_copier : s_copier.toInt ≤ 7) (l_s_seed : 0 ≤ s_seed.toInt) (u_s_seed : s_seed.toInt ≤ 999) (i0_s_row : In2 s_row 0 6 (0) (7)) (i0_s_has : In2 s_has 0 8 (0) (40)) (i0_s_clean : In2 s_clean 0 8 (0) (40)) : Met l yX6_under wq_k_X_under ({ frames := 1, cells := 0, slots := 0, locals := 24 }) (va_Pc [.ref hX, .int x1, .int x2] (cB (dC, dI) (kT cyB cyI cyJ cyZ cyO) (wc_k_X_under cyB cyI cyJ cyZ cyO hX xd x_tapeLength x_at x_top x_lyingCount x_fewest x_time hs sd s_row s_has s_clean s_size s_copier s_copyLeft s_tick s_seed s_dropped x1 x2 hp hd hR0 hu hT hg) sz)) (va_Qi (fun (r : Int32) (u : Unit) => (-40 ≤ r.toInt) ∧ (r.toInt ≤ 40)) (fun (u : Unit) t => cE (dC, dI) (va_A (wc_k_X_under cyB cyI cyJ cyZ cyO hX xd x_tapeLength x_at x_top x_lyingCount x_fewest x_time hs sd s_row s_has s_clean s_size s_copier s_copyLeft s_tick s_seed s_dropped x1 x2 hp hd hR0 hu hT hg) sz) ([(hX, .inr (6, [.ref (xd 0), .int x_tapeLength, .ref hp, .ref hd, .ref hR0, .ref hu, .ref (xd 6), .int x_at, .int x_top, .ref hs, .ref hT, .ref (xd 11), .ref (xd 12), .ref (xd 13), .int x_lyingCount, .ref (xd 15), .int x_fewest, .ref hg, .ref (xd 18), .int x_time])), (hs, .inr (5, [.ref (sd 0), .ref (sd 1), .ref (sd 2), .ref (sd 3), .ref (sd 4), .ref (sd 5), .ref (sd 6), .int s_size, .int s_copier, .int s_copyLeft, .int s_tick, .int s_seed, .int s_dropped])), (sd 0, .inl (cyI, 6, .inl s_row)), (sd 1, .inl (cyI, 8, .inl s_has)), (sd 2, .inl (cyI, 8, .inl s_clean))]) t.heap) (va_A (wc_k_X_under cyB cyI cyJ cyZ cyO hX xd x_tapeLength x_at x_top x_lyingCount x_fewest x_time hs sd s_row s_has s_clean s_size s_copier s_copyLeft s_tick s_seed s_dropped x1 x2 hp hd hR0 hu hT hg) sz)) 0 0 (va_A (wc_k_X_under cyB cyI cyJ cyZ cyO hX xd x_tapeLength x_at x_top x_lyingCount x_fewest x_time hs sd s_row s_has s_clean s_size s_copier s_copyLeft s_tick s_seed s_dropped x1 x2 hp hd hR0 hu hT hg) sz) := by
  refine Met.ofW (cc := cX6_under) (maxL := 3) (ret := (some .int)) (by decide) rfl ?_
  intro p e s m args below meth c s₁ B hml hv
  obtain ⟨rfl, hsz, hP, hKN, hD0⟩ := hv
  have hx := B.exec
  have hb := B.bytes
  have hr := B.returns
  have hts := atoms_spec (ws := wq_k_X_under) B.pre
  have hown : s.vm.findClass RX6 = some m.cls := findClass_of_methodNamed B.named
  have hlocks := B.notSynchronized
  have hK := hKN.1
  have hfix : CallFix p m c cX6_under 3 s [.ref hX, .int x1, .int x2].toArray wq_k_X_under RX6 := ⟨hx, hb, hml, hown, hts⟩
  have hi6 : ∀ w ∈ wsX60, w ∈ wq_k_X_under := (sb_c (sb_r (sb_r sb_l)))
  subst hsz
  have hD := hD0.self (sz := s.heap.size)
  generalize hAe : va_A (wc_k_X_under cyB cyI cyJ cyZ cyO hX xd x_tapeLength x_at x_top x_lyingCount x_fewest x_time hs sd s_row s_has s_clean s_size s_copier s_copyLeft s_tick s_seed s_dropped x1 x2 hp hd hR0 hu hT hg) s.heap.size = A at hD ⊢
  have hA : ∀ q : Nat, s.heap.size ≤ q → A q := fun q h => by rw [← hAe]; exact Or.inr h
  have hS : va_S A s.heap s.heap [] := va_S.rf
  have hl := lv_entry ([.ref hX, .int x1, .int x2]) (n := 3) (Nat.le_of_ble_eq_true rfl)
  rw [lg_entry_eq]
  generalize (lg_sl ([.ref hX, .int x1, .int x2]) ++ List.replicate (3 - (lg_sl ([.ref hX, .int x1, .int x2])).length) Slot.unset).toArray = ls at hl ⊢
  have hl : lv_has ls 3 [(0, .ref hX), (1, .int x1), (2, .int x2)] := hl
  have ckm1 : (-1 : Int32).toInt = -1 := by decide
  have ck0 : (0 : Int32).toInt = 0 := by decide
  have ck1 : (1 : Int32).toInt = 1 := by decide
  refine lv_aload_n hx hb dX6_under_0 rfl (lv_at hl 0 rfl) ?_
  refine lv_iload_n hx hb dX6_under_1 rfl (lv_at hl 1 rfl) ?_
  refine lv_iload_n hx hb dX6_under_2 rfl (lv_at hl 2 rfl) ?_
  refine gf_i (wr := [(sd 0, .inl (cyI, 6, .inl s_row)), (sd 1, .inl (cyI, 8, .inl s_has)), (sd 2, .inl (cyI, 8, .inl s_clean))]) (va_runV (As := [.int x1, .int x2]) (rest := []) hfix (k_X_isLink l dC dI cyB cyI cyJ cyZ cyO hX xd x_tapeLength x_at x_top x_lyingCount x_fewest x_time hs sd s_size s_copier s_copyLeft s_tick s_seed s_dropped x1 x2 hp hd hR0 hu hT hg _ (by first | omega | assumption) (by first | omega | assumption) (by first | omega | assumption) (by first | omega | assumption) (by first | omega | assumption) (by first | omega | assumption) (by first | omega | assumption) (by first | omega | assumption) (by first | omega | assumption) (by first | omega | assumption) (by first | omega | assumption) (by first | omega | assumption) (by first | omega | assumption) (by first | omega | assumption) (by first | omega | assumption) (by first | omega | assumption)) (cwV 2 hts (gi_V (ow_m (k := 0) rfl) (ow_m (k := 1) rfl) (ow_m (k := 2) rfl) (ow_m (k := 3) rfl) (sb_c sb_l) gd_k_X_isLink) rfl rfl rfl (by decide +kernel) ⟨Nat.le_of_ble_eq_true rfl, Nat.le_of_ble_eq_true rfl⟩) (g_preV hKN hP hD [0, 1] rfl (by decide) 0 6 rfl rfl) rfl rfl hl.1 rfl (lv_room (Nat.le_of_ble_eq_true rfl)) dX6_under_3 ⟨Nat.le_of_ble_eq_true rfl, Nat.le_of_ble_eq_true rfl⟩) hP hD hS hA [0, 1] [2, 3, 4] rfl rfl (by decide) (by decide) (fun r16997 u16998 H locs qu16998 hP hD hS => ?_)
  have b16999 := qu16998
  have hP : va_P (dC, dI) vwCl [(sd 0, .inl (cyI, 6, .inl s_row)), (sd 1, .inl (cyI, 8, .inl s_has)), (sd 2, .inl (cyI, 8, .inl s_clean)), (hX, .inr (6, [.ref (xd 0), .int x_tapeLength, .ref hp, .ref hd, .ref hR0, .ref hu, .ref (xd 6), .int x_at, .int x_top, .ref hs, .ref hT, .ref (xd 11), .ref (xd 12), .ref (xd 13), .int x_lyingCount, .ref (xd 15), .int x_fewest, .ref hg, .ref (xd 18), .int x_time])), (hs, .inr (5, [.ref (sd 0), .ref (sd 1), .ref (sd 2), .ref (sd 3), .ref (sd 4), .ref (sd 5), .ref (sd 6), .int s_size, .int s_copier, .int s_copyLeft, .int s_tick, .int s_seed, .int s_dropped]))] H := hP
  have hD : va_D A [(sd 0, .inl (cyI, 6, .inl s_row)), (sd 1, .inl (cyI, 8, .inl s_has)), (sd 2, .inl (cyI, 8, .inl s_clean)), (hX, .inr (6, [.ref (xd 0), .int x_tapeLength, .ref hp, .ref hd, .ref hR0, .ref hu, .ref (xd 6), .int x_at, .int x_top, .ref hs, .ref hT, .ref (xd 11), .ref (xd 12), .ref (xd 13), .int x_lyingCount, .ref (xd 15), .int x_fewest, .ref hg, .ref (xd 18), .int x_time])), (hs, .inr (5, [.ref (sd 0), .ref (sd 1), .ref (sd 2), .ref (sd 3), .ref (sd 4), .ref (sd 5), .ref (sd 6), .int s_size, .int s_copier, .int s_copyLeft, .int s_tick, .int s_seed, .int s_dropped]))] := hD
  rcases b16999 with ⟨rfl, b17000, b17001, b17002, b17003, b17004⟩ | rfl
  · skip
    refine lv_if_eq (tgt := 21) hx hb dX6_under_6 (by decide) (fun c17005 => absurd c17005 (by decide)) (fun _ => ?_)
    refine lv_aload_n hx hb dX6_under_9 rfl (lv_at hl 0 rfl) ?_
    refine va_get (D := (dC, dI)) (ci := 6) (v := .ref hs) (C := RX6) (T := TX6) (N := 20) hx hb hts hi6 hown hK hP 3 rfl rfl 9 (by decide) (hts _ (ow_m (k := 4) rfl)) (fun _ h9 => h9) rfl dX6_under_10 ?_
    refine lv_iload_n hx hb dX6_under_13 rfl (lv_at hl 1 rfl) ?_
    refine lv_iload_n hx hb dX6_under_14 rfl (lv_at hl 2 rfl) ?_
    refine gf_i (wr := [(hX, .inr (6, [.ref (xd 0), .int x_tapeLength, .ref hp, .ref hd, .ref hR0, .ref hu, .ref (xd 6), .int x_at, .int x_top, .ref hs, .ref hT, .ref (xd 11), .ref (xd 12), .ref (xd 13), .int x_lyingCount, .ref (xd 15), .int x_fewest, .ref hg, .ref (xd 18), .int x_time]))]) (va_runV (As := [.int x1, .int x2]) (rest := []) hfix (k_St_underWay2 l dC dI cyB cyI cyJ cyZ cyO hs sd s_row s_has s_clean s_size s_copier s_copyLeft s_tick s_seed s_dropped x1 x2 _ (by first | omega | assumption) (by first | omega | assumption) (by first | omega | assumption) (by first | omega | assumption) (by first | omega | assumption) (by first | omega | assumption) i0_s_row i0_s_has i0_s_clean (by first | omega | assumption) (by first | omega | assumption)) (cwV 2 hts (gi_V (ow_m (k := 5) rfl) (ow_m (k := 6) rfl) (ow_m (k := 7) rfl) (ow_m (k := 8) rfl) (sb_c (sb_r sb_l)) gd_k_St_underWay2) rfl rfl rfl (by decide +kernel) ⟨Nat.le_of_ble_eq_true rfl, Nat.le_of_ble_eq_true rfl⟩) (g_preV hKN hP hD [4, 0, 1, 2] rfl (by decide) 0 5 rfl rfl) rfl rfl hl.1 rfl (lv_room (Nat.le_of_ble_eq_true rfl)) dX6_under_15 ⟨Nat.le_of_ble_eq_true rfl, Nat.le_of_ble_eq_true rfl⟩) hP hD hS hA [4, 0, 1, 2] [3] rfl rfl (by decide) (by decide) (fun r17006 u17007 H locs qu17007 hP hD hS => ?_)
    obtain ⟨b17008, b17009, b17010, b17011⟩ := qu17007
    have hP : va_P (dC, dI) vwCl [(hX, .inr (6, [.ref (xd 0), .int x_tapeLength, .ref hp, .ref hd, .ref hR0, .ref hu, .ref (xd 6), .int x_at, .int x_top, .ref hs, .ref hT, .ref (xd 11), .ref (xd 12), .ref (xd 13), .int x_lyingCount, .ref (xd 15), .int x_fewest, .ref hg, .ref (xd 18), .int x_time])), (hs, .inr (5, [.ref (sd 0), .ref (sd 1), .ref (sd 2), .ref (sd 3), .ref (sd 4), .ref (sd 5), .ref (sd 6), .int s_size, .int s_copier, .int s_copyLeft, .int s_tick, .int s_seed, .int s_dropped])), (sd 0, .inl (cyI, 6, .inl s_row)), (sd 1, .inl (cyI, 8, .inl s_has)), (sd 2, .inl (cyI, 8, .inl s_clean))] H := hP
    have hD : va_D A [(hX, .inr (6, [.ref (xd 0), .int x_tapeLength, .ref hp, .ref hd, .ref hR0, .ref hu, .ref (xd 6), .int x_at, .int x_top, .ref hs, .ref hT, .ref (xd 11), .ref (xd 12), .ref (xd 13), .int x_lyingCount, .ref (xd 15), .int x_fewest, .ref hg, .ref (xd 18), .int x_time])), (hs, .inr (5, [.ref (sd 0), .ref (sd 1), .ref (sd 2), .ref (sd 3), .ref (sd 4), .ref (sd 5), .ref (sd 6), .int s_size, .int s_copier, .int s_copyLeft, .int s_tick, .int s_seed, .int s_dropped])), (sd 0, .inl (cyI, 6, .inl s_row)), (sd 1, .inl (cyI, 8, .inl s_has)), (sd 2, .inl (cyI, 8, .inl s_clean))] := hD
    refine lv_goto (tgt := 22) hx hb dX6_under_18 (by decide) ?_
    have w17012 : -40 ≤ r17006.toInt := by first | omega | assumption | rfl
    have w17013 : r17006.toInt ≤ 40 := by first | omega | assumption | rfl
    exact W.iret (v := r17006) hx hb hr (fun t ht hW => ⟨⟨r17006, (), rfl, ⟨w17012, w17013⟩, cE.of ht hP hD [0, 1, 2, 3, 4] (by decide) rfl⟩, hS.F ht⟩) hS.2.2 dX6_under_22
  · skip
    refine lv_if_eq (tgt := 21) hx hb dX6_under_6 (by decide) (fun _ => ?_) (fun c17014 => absurd (by decide) c17014)
    refine lv_iconst (v := (-1)) hx hb dX6_under_21 (by decide) ?_
    have w17015 : -40 ≤ (-1 : Int32).toInt := by first | omega | assumption | rfl
    have w17016 : (-1 : Int32).toInt ≤ 40 := by first | omega | assumption | rfl
    exact W.iret (v := (-1)) hx hb hr (fun t ht hW => ⟨⟨(-1), (), rfl, ⟨w17015, w17016⟩, cE.of ht hP hD [3, 4, 0, 1, 2] (by decide) rfl⟩, hS.F ht⟩) hS.2.2 dX6_under_22
def wo_k_X_due : List Cond := [.methodLink RX6 185 yX6_isLink, .instanceMethod yX6_isLink, .selects RX6 yX6_isLink yX6_isLink, .initialized RX6, .fieldLink RX6 110 "ReplicaChain" "now" "LReplicaChain$State;", .methodLink RX6 189 yX5_underWay, .instanceMethod yX5_underWay, .selects RX5 yX5_underWay yX5_underWay, .initialized RX5, .methodLink RX6 192 yX5_ticksTillNext, .instanceMethod yX5_ticksTillNext, .selects RX5 yX5_ticksTillNext yX5_ticksTillNext]
def wq_k_X_due : List Cond := .code yX6_due cX6_due 3 (some .int) :: (wo_k_X_due ++ (wq_k_X_isLink ++ (wq_k_St_underWay2 ++ (wq_k_St_ticksTillNext ++ (wsX60 ++ [])))))
theorem gd_k_X_due : Gd wq_k_X_due := gd_c (gd_a (gd_o (by decide +kernel)) (gd_a gd_k_X_isLink (gd_a gd_k_St_underWay2 (gd_a gd_k_St_ticksTillNext (gd_a gd_u gd_0)))))
abbrev wc_k_X_due (cyB cyI cyJ cyZ cyO : ClassId) (hX : Nat) (xd : Nat → Nat) (x_tapeLength : Int32) (x_at : Int32) (x_top : Int32) (x_lyingCount : Int32) (x_fewest : Int32) (x_time : Int32) (hs : Nat) (sd : Nat → Nat) (s_row : Nat → Int32) (s_has : Nat → Int32) (s_clean : Nat → Int32) (s_dn : Nat → Int32) (s_up : Nat → Int32) (s_size : Int32) (s_copier : Int32) (s_copyLeft : Int32) (s_tick : Int32) (s_seed : Int32) (s_dropped : Int32) (x1 : Int32) (x2 : Int32) (hp : Nat) (hd : Nat) (hR0 : Nat) (hu : Nat) (hT : Nat) (hg : Nat) : va_W := [(hX, .inr (6, [.ref (xd 0), .int x_tapeLength, .ref hp, .ref hd, .ref hR0, .ref hu, .ref (xd 6), .int x_at, .int x_top, .ref hs, .ref hT, .ref (xd 11), .ref (xd 12), .ref (xd 13), .int x_lyingCount, .ref (xd 15), .int x_fewest, .ref hg, .ref (xd 18), .int x_time])), (hs, .inr (5, [.ref (sd 0), .ref (sd 1), .ref (sd 2), .ref (sd 3), .ref (sd 4), .ref (sd 5), .ref (sd 6), .int s_size, .int s_copier, .int s_copyLeft, .int s_tick, .int s_seed, .int s_dropped])), (sd 0, .inl (cyI, 6, .inl s_row)), (sd 1, .inl (cyI, 8, .inl s_has)), (sd 2, .inl (cyI, 8, .inl s_clean)), (sd 3, .inl (cyI, 328, .inl s_dn)), (sd 4, .inl (cyI, 328, .inl s_up))]
set_option maxHeartbeats 4000000 in
set_option maxRecDepth 100000 in
theorem k_X_due (l : Launch) (dC : Nat → ClassId) (dI : Nat → Nat → Nat) (cyB cyI cyJ cyZ cyO : ClassId) (hX : Nat) (xd : Nat → Nat) (x_tapeLength : Int32) (x_at : Int32) (x_top : Int32) (x_lyingCount : Int32) (x_fewest : Int32) (x_time : Int32) (hs : Nat) (sd : Nat → Nat) (s_row : Nat → Int32) (s_has : Nat → Int32) (s_clean : Nat → Int32) (s_dn : Nat → Int32) (s_up : Nat → Int32) (s_size : Int32) (s_copier : Int32) (s_copyLeft : Int32) (s_tick : Int32) (s_seed : Int32) (s_dropped : Int32) (x1 : Int32) (x2 : Int32) (hp : Nat) (hd : Nat) (hR0 : Nat) (hu : Nat) (hT : Nat) (hg : Nat) (sz : Nat) (l_x_tapeLength : 0 ≤ x_tapeLength.toInt) (u_x_tapeLength : x_tapeLength.toInt ≤ 1600) (l_x_at : 0 ≤ x_at.toInt) (u_x_at : x_at.toInt ≤ 40) (l_x_top : 0 ≤ x_top.toInt) (u_x_top : x_top.toInt ≤ 40) (l_x_lyingCount : 0 ≤ x_lyingCount.toInt) (u_x_lyingCount : x_lyingCount.toInt ≤ 6) (l_x_time : 0 ≤ x_time.toInt) (u_x_time : x_time.toInt ≤ 100000) (l_s_size : 0 ≤ s_size.toInt) (u_s_size : s_size.toInt ≤ 6) (l_s_copier : -1 ≤ s_copier.toInt) (u_s_copier : s_copier.toInt ≤ 7) (l_s_seed : 0 ≤ s_seed.toInt) (u_s_seed : s_seed.toInt ≤ 999) (i0_s_row : In2 s_row 0 6 (0) (7)) (i0_s_has : In2 s_has 0 8 (0) (40)) (i0_s_clean : In2 s_clean 0 8 (0) (40)) (v0_s_ : RI s_size s_copier s_row s_has s_clean) : Met l yX6_due wq_k_X_due ({ frames := 2, cells := 0, slots := 0, locals := 46 }) (va_Pc [.ref hX, .int x1, .int x2] (cB (dC, dI) (kT cyB cyI cyJ cyZ cyO) (wc_k_X_due cyB cyI cyJ cyZ cyO hX xd x_tapeLength x_at x_top x_lyingCount x_fewest x_time hs sd s_row s_has s_clean s_dn s_up s_size s_copier s_copyLeft s_tick s_seed s_dropped x1 x2 hp hd hR0 hu hT hg) sz)) (va_Qi (fun (r : Int32) (u : Unit) => True) (fun (u : Unit) t => cE (dC, dI) (va_A (wc_k_X_due cyB cyI cyJ cyZ cyO hX xd x_tapeLength x_at x_top x_lyingCount x_fewest x_time hs sd s_row s_has s_clean s_dn s_up s_size s_copier s_copyLeft s_tick s_seed s_dropped x1 x2 hp hd hR0 hu hT hg) sz) ([(hX, .inr (6, [.ref (xd 0), .int x_tapeLength, .ref hp, .ref hd, .ref hR0, .ref hu, .ref (xd 6), .int x_at, .int x_top, .ref hs, .ref hT, .ref (xd 11), .ref (xd 12), .ref (xd 13), .int x_lyingCount, .ref (xd 15), .int x_fewest, .ref hg, .ref (xd 18), .int x_time])), (hs, .inr (5, [.ref (sd 0), .ref (sd 1), .ref (sd 2), .ref (sd 3), .ref (sd 4), .ref (sd 5), .ref (sd 6), .int s_size, .int s_copier, .int s_copyLeft, .int s_tick, .int s_seed, .int s_dropped])), (sd 0, .inl (cyI, 6, .inl s_row)), (sd 1, .inl (cyI, 8, .inl s_has)), (sd 2, .inl (cyI, 8, .inl s_clean)), (sd 3, .inl (cyI, 328, .inl s_dn)), (sd 4, .inl (cyI, 328, .inl s_up))]) t.heap) (va_A (wc_k_X_due cyB cyI cyJ cyZ cyO hX xd x_tapeLength x_at x_top x_lyingCount x_fewest x_time hs sd s_row s_has s_clean s_dn s_up s_size s_copier s_copyLeft s_tick s_seed s_dropped x1 x2 hp hd hR0 hu hT hg) sz)) 0 0 (va_A (wc_k_X_due cyB cyI cyJ cyZ cyO hX xd x_tapeLength x_at x_top x_lyingCount x_fewest x_time hs sd s_row s_has s_clean s_dn s_up s_size s_copier s_copyLeft s_tick s_seed s_dropped x1 x2 hp hd hR0 hu hT hg) sz) := by
  refine Met.ofW (cc := cX6_due) (maxL := 3) (ret := (some .int)) (by decide) rfl ?_
  intro p e s m args below meth c s₁ B hml hv
  obtain ⟨rfl, hsz, hP, hKN, hD0⟩ := hv
  have hx := B.exec
  have hb := B.bytes
  have hr := B.returns
  have hts := atoms_spec (ws := wq_k_X_due) B.pre
  have hown : s.vm.findClass RX6 = some m.cls := findClass_of_methodNamed B.named
  have hlocks := B.notSynchronized
  have hK := hKN.1
  have hfix : CallFix p m c cX6_due 3 s [.ref hX, .int x1, .int x2].toArray wq_k_X_due RX6 := ⟨hx, hb, hml, hown, hts⟩
  have hi6 : ∀ w ∈ wsX60, w ∈ wq_k_X_due := (sb_c (sb_r (sb_r (sb_r sb_l))))
  subst hsz
  have hD := hD0.self (sz := s.heap.size)
  generalize hAe : va_A (wc_k_X_due cyB cyI cyJ cyZ cyO hX xd x_tapeLength x_at x_top x_lyingCount x_fewest x_time hs sd s_row s_has s_clean s_dn s_up s_size s_copier s_copyLeft s_tick s_seed s_dropped x1 x2 hp hd hR0 hu hT hg) s.heap.size = A at hD ⊢
  have hA : ∀ q : Nat, s.heap.size ≤ q → A q := fun q h => by rw [← hAe]; exact Or.inr h
  have hS : va_S A s.heap s.heap [] := va_S.rf
  have hl := lv_entry ([.ref hX, .int x1, .int x2]) (n := 3) (Nat.le_of_ble_eq_true rfl)
  rw [lg_entry_eq]
  generalize (lg_sl ([.ref hX, .int x1, .int x2]) ++ List.replicate (3 - (lg_sl ([.ref hX, .int x1, .int x2])).length) Slot.unset).toArray = ls at hl ⊢
  have hl : lv_has ls 3 [(0, .ref hX), (1, .int x1), (2, .int x2)] := hl
  have ck0 : (0 : Int32).toInt = 0 := by decide
  have ck1 : (1 : Int32).toInt = 1 := by decide
  refine lv_aload_n hx hb dX6_due_0 rfl (lv_at hl 0 rfl) ?_
  refine lv_iload_n hx hb dX6_due_1 rfl (lv_at hl 1 rfl) ?_
  refine lv_iload_n hx hb dX6_due_2 rfl (lv_at hl 2 rfl) ?_
  refine gf_i (wr := [(sd 0, .inl (cyI, 6, .inl s_row)), (sd 1, .inl (cyI, 8, .inl s_has)), (sd 2, .inl (cyI, 8, .inl s_clean)), (sd 3, .inl (cyI, 328, .inl s_dn)), (sd 4, .inl (cyI, 328, .inl s_up))]) (va_runV (As := [.int x1, .int x2]) (rest := []) hfix (k_X_isLink l dC dI cyB cyI cyJ cyZ cyO hX xd x_tapeLength x_at x_top x_lyingCount x_fewest x_time hs sd s_size s_copier s_copyLeft s_tick s_seed s_dropped x1 x2 hp hd hR0 hu hT hg _ (by first | omega | assumption) (by first | omega | assumption) (by first | omega | assumption) (by first | omega | assumption) (by first | omega | assumption) (by first | omega | assumption) (by first | omega | assumption) (by first | omega | assumption) (by first | omega | assumption) (by first | omega | assumption) (by first | omega | assumption) (by first | omega | assumption) (by first | omega | assumption) (by first | omega | assumption) (by first | omega | assumption) (by first | omega | assumption)) (cwV 2 hts (gi_V (ow_m (k := 0) rfl) (ow_m (k := 1) rfl) (ow_m (k := 2) rfl) (ow_m (k := 3) rfl) (sb_c sb_l) gd_k_X_isLink) rfl rfl rfl (by decide +kernel) ⟨Nat.le_of_ble_eq_true rfl, Nat.le_of_ble_eq_true rfl⟩) (g_preV hKN hP hD [0, 1] rfl (by decide) 0 6 rfl rfl) rfl rfl hl.1 rfl (lv_room (Nat.le_of_ble_eq_true rfl)) dX6_due_3 ⟨Nat.le_of_ble_eq_true rfl, Nat.le_of_ble_eq_true rfl⟩) hP hD hS hA [0, 1] [2, 3, 4, 5, 6] rfl rfl (by decide) (by decide) (fun r17055 u17056 H locs qu17056 hP hD hS => ?_)
  have b17057 := qu17056
  have hP : va_P (dC, dI) vwCl [(sd 0, .inl (cyI, 6, .inl s_row)), (sd 1, .inl (cyI, 8, .inl s_has)), (sd 2, .inl (cyI, 8, .inl s_clean)), (sd 3, .inl (cyI, 328, .inl s_dn)), (sd 4, .inl (cyI, 328, .inl s_up)), (hX, .inr (6, [.ref (xd 0), .int x_tapeLength, .ref hp, .ref hd, .ref hR0, .ref hu, .ref (xd 6), .int x_at, .int x_top, .ref hs, .ref hT, .ref (xd 11), .ref (xd 12), .ref (xd 13), .int x_lyingCount, .ref (xd 15), .int x_fewest, .ref hg, .ref (xd 18), .int x_time])), (hs, .inr (5, [.ref (sd 0), .ref (sd 1), .ref (sd 2), .ref (sd 3), .ref (sd 4), .ref (sd 5), .ref (sd 6), .int s_size, .int s_copier, .int s_copyLeft, .int s_tick, .int s_seed, .int s_dropped]))] H := hP
  have hD : va_D A [(sd 0, .inl (cyI, 6, .inl s_row)), (sd 1, .inl (cyI, 8, .inl s_has)), (sd 2, .inl (cyI, 8, .inl s_clean)), (sd 3, .inl (cyI, 328, .inl s_dn)), (sd 4, .inl (cyI, 328, .inl s_up)), (hX, .inr (6, [.ref (xd 0), .int x_tapeLength, .ref hp, .ref hd, .ref hR0, .ref hu, .ref (xd 6), .int x_at, .int x_top, .ref hs, .ref hT, .ref (xd 11), .ref (xd 12), .ref (xd 13), .int x_lyingCount, .ref (xd 15), .int x_fewest, .ref hg, .ref (xd 18), .int x_time])), (hs, .inr (5, [.ref (sd 0), .ref (sd 1), .ref (sd 2), .ref (sd 3), .ref (sd 4), .ref (sd 5), .ref (sd 6), .int s_size, .int s_copier, .int s_copyLeft, .int s_tick, .int s_seed, .int s_dropped]))] := hD
  rcases b17057 with ⟨rfl, b17058, b17059, b17060, b17061, b17062⟩ | rfl
  · skip
    refine lv_if_eq (tgt := 21) hx hb dX6_due_6 (by decide) (fun c17063 => absurd c17063 (by decide)) (fun _ => ?_)
    refine lv_aload_n hx hb dX6_due_9 rfl (lv_at hl 0 rfl) ?_
    refine va_get (D := (dC, dI)) (ci := 6) (v := .ref hs) (C := RX6) (T := TX6) (N := 20) hx hb hts hi6 hown hK hP 5 rfl rfl 9 (by decide) (hts _ (ow_m (k := 4) rfl)) (fun _ h9 => h9) rfl dX6_due_10 ?_
    refine lv_iload_n hx hb dX6_due_13 rfl (lv_at hl 1 rfl) ?_
    refine lv_iload_n hx hb dX6_due_14 rfl (lv_at hl 2 rfl) ?_
    refine gf_i (wr := [(sd 3, .inl (cyI, 328, .inl s_dn)), (sd 4, .inl (cyI, 328, .inl s_up)), (hX, .inr (6, [.ref (xd 0), .int x_tapeLength, .ref hp, .ref hd, .ref hR0, .ref hu, .ref (xd 6), .int x_at, .int x_top, .ref hs, .ref hT, .ref (xd 11), .ref (xd 12), .ref (xd 13), .int x_lyingCount, .ref (xd 15), .int x_fewest, .ref hg, .ref (xd 18), .int x_time]))]) (va_runV (As := [.int x1, .int x2]) (rest := []) hfix (k_St_underWay2 l dC dI cyB cyI cyJ cyZ cyO hs sd s_row s_has s_clean s_size s_copier s_copyLeft s_tick s_seed s_dropped x1 x2 _ (by first | omega | assumption) (by first | omega | assumption) (by first | omega | assumption) (by first | omega | assumption) (by first | omega | assumption) (by first | omega | assumption) i0_s_row i0_s_has i0_s_clean (by first | omega | assumption) (by first | omega | assumption)) (cwV 2 hts (gi_V (ow_m (k := 5) rfl) (ow_m (k := 6) rfl) (ow_m (k := 7) rfl) (ow_m (k := 8) rfl) (sb_c (sb_r sb_l)) gd_k_St_underWay2) rfl rfl rfl (by decide +kernel) ⟨Nat.le_of_ble_eq_true rfl, Nat.le_of_ble_eq_true rfl⟩) (g_preV hKN hP hD [6, 0, 1, 2] rfl (by decide) 0 5 rfl rfl) rfl rfl hl.1 rfl (lv_room (Nat.le_of_ble_eq_true rfl)) dX6_due_15 ⟨Nat.le_of_ble_eq_true rfl, Nat.le_of_ble_eq_true rfl⟩) hP hD hS hA [6, 0, 1, 2] [3, 4, 5] rfl rfl (by decide) (by decide) (fun r17064 u17065 H locs qu17065 hP hD hS => ?_)
    obtain ⟨b17066, b17067, b17068, b17069⟩ := qu17065
    have hP : va_P (dC, dI) vwCl [(sd 3, .inl (cyI, 328, .inl s_dn)), (sd 4, .inl (cyI, 328, .inl s_up)), (hX, .inr (6, [.ref (xd 0), .int x_tapeLength, .ref hp, .ref hd, .ref hR0, .ref hu, .ref (xd 6), .int x_at, .int x_top, .ref hs, .ref hT, .ref (xd 11), .ref (xd 12), .ref (xd 13), .int x_lyingCount, .ref (xd 15), .int x_fewest, .ref hg, .ref (xd 18), .int x_time])), (hs, .inr (5, [.ref (sd 0), .ref (sd 1), .ref (sd 2), .ref (sd 3), .ref (sd 4), .ref (sd 5), .ref (sd 6), .int s_size, .int s_copier, .int s_copyLeft, .int s_tick, .int s_seed, .int s_dropped])), (sd 0, .inl (cyI, 6, .inl s_row)), (sd 1, .inl (cyI, 8, .inl s_has)), (sd 2, .inl (cyI, 8, .inl s_clean))] H := hP
    have hD : va_D A [(sd 3, .inl (cyI, 328, .inl s_dn)), (sd 4, .inl (cyI, 328, .inl s_up)), (hX, .inr (6, [.ref (xd 0), .int x_tapeLength, .ref hp, .ref hd, .ref hR0, .ref hu, .ref (xd 6), .int x_at, .int x_top, .ref hs, .ref hT, .ref (xd 11), .ref (xd 12), .ref (xd 13), .int x_lyingCount, .ref (xd 15), .int x_fewest, .ref hg, .ref (xd 18), .int x_time])), (hs, .inr (5, [.ref (sd 0), .ref (sd 1), .ref (sd 2), .ref (sd 3), .ref (sd 4), .ref (sd 5), .ref (sd 6), .int s_size, .int s_copier, .int s_copyLeft, .int s_tick, .int s_seed, .int s_dropped])), (sd 0, .inl (cyI, 6, .inl s_row)), (sd 1, .inl (cyI, 8, .inl s_has)), (sd 2, .inl (cyI, 8, .inl s_clean))] := hD
    refine lv_if_ne (tgt := 23) hx hb dX6_due_18 (by decide) (fun c17070 => ?_) (fun c17070 => ?_)
    · have c17070 := i_ne (a := r17064.toInt) (b := 0) c17070 rfl (by decide)
      refine lv_aload_n hx hb dX6_due_23 rfl (lv_at hl 0 rfl) ?_
      refine va_get (D := (dC, dI)) (ci := 6) (v := .ref hs) (C := RX6) (T := TX6) (N := 20) hx hb hts hi6 hown hK hP 2 rfl rfl 9 (by decide) (hts _ (ow_m (k := 4) rfl)) (fun _ h9 => h9) rfl dX6_due_24 ?_
      refine lv_iload_n hx hb dX6_due_27 rfl (lv_at hl 1 rfl) ?_
      refine lv_iload_n hx hb dX6_due_28 rfl (lv_at hl 2 rfl) ?_
      have g1 : x2.toInt = 0 → ∀ y : Int32, y.toInt = x1.toInt + 1 → (s_has (s_row y.toNatClampNeg).toNatClampNeg).toInt ≤ 39 := fun h y hy => by
        have q1 := b17068 (by omega) h y hy
        have q2 := v0_s_.2.1 x1 y (by omega) hy (by omega)
        have q3 := rh40 i0_s_row i0_s_has (x := x1) (by omega) (by omega)
        omega
      have g2 : x2.toInt ≠ 0 → (s_clean (s_row x1.toNatClampNeg).toNatClampNeg).toInt ≤ 39 := fun h => by
        obtain ⟨y, hy⟩ : ∃ y : Int32, y.toInt = x1.toInt + 1 := ⟨x1 + 1, ti_add (a := x1.toInt) (b := 1) rfl rfl (by decide) (by omega) (by omega)⟩
        have q1 := b17069 (by omega) h y hy
        have q2 := v0_s_.2.2.1 x1 y (by omega) hy (by omega)
        have q3 := rh40 i0_s_row i0_s_clean (x := y) (by omega) (by omega)
        omega
      refine gf_i (wr := [(hX, .inr (6, [.ref (xd 0), .int x_tapeLength, .ref hp, .ref hd, .ref hR0, .ref hu, .ref (xd 6), .int x_at, .int x_top, .ref hs, .ref hT, .ref (xd 11), .ref (xd 12), .ref (xd 13), .int x_lyingCount, .ref (xd 15), .int x_fewest, .ref hg, .ref (xd 18), .int x_time]))]) (va_runV (As := [.int x1, .int x2]) (rest := []) hfix (k_St_ticksTillNext l dC dI cyB cyI cyJ cyZ cyO hs sd s_row s_has s_clean s_dn s_up s_size s_copier s_copyLeft s_tick s_seed s_dropped x1 x2 _ (by first | omega | assumption) (by first | omega | assumption) (by first | omega | assumption) (by first | omega | assumption) (by first | omega | assumption) (by first | omega | assumption) i0_s_row i0_s_has i0_s_clean (by first | omega | assumption) (by first | omega | assumption) (by first | omega | assumption) (by first | omega | assumption) (by first | omega | assumption)) (cwV 2 hts (gi_V (ow_m (k := 9) rfl) (ow_m (k := 10) rfl) (ow_m (k := 11) rfl) (ow_m (k := 8) rfl) (sb_c (sb_r (sb_r sb_l))) gd_k_St_ticksTillNext) rfl rfl rfl (by decide +kernel) ⟨Nat.le_of_ble_eq_true rfl, Nat.le_of_ble_eq_true rfl⟩) (g_preV hKN hP hD [3, 4, 5, 6, 0, 1] rfl (by decide) 0 5 rfl rfl) rfl rfl hl.1 rfl (lv_room (Nat.le_of_ble_eq_true rfl)) dX6_due_29 ⟨Nat.le_of_ble_eq_true rfl, Nat.le_of_ble_eq_true rfl⟩) hP hD hS hA [3, 4, 5, 6, 0, 1] [2] rfl rfl (by decide) (by decide) (fun r17071 u17072 H locs qu17072 hP hD hS => ?_)
      have hP : va_P (dC, dI) vwCl [(hX, .inr (6, [.ref (xd 0), .int x_tapeLength, .ref hp, .ref hd, .ref hR0, .ref hu, .ref (xd 6), .int x_at, .int x_top, .ref hs, .ref hT, .ref (xd 11), .ref (xd 12), .ref (xd 13), .int x_lyingCount, .ref (xd 15), .int x_fewest, .ref hg, .ref (xd 18), .int x_time])), (hs, .inr (5, [.ref (sd 0), .ref (sd 1), .ref (sd 2), .ref (sd 3), .ref (sd 4), .ref (sd 5), .ref (sd 6), .int s_size, .int s_copier, .int s_copyLeft, .int s_tick, .int s_seed, .int s_dropped])), (sd 0, .inl (cyI, 6, .inl s_row)), (sd 1, .inl (cyI, 8, .inl s_has)), (sd 2, .inl (cyI, 8, .inl s_clean)), (sd 3, .inl (cyI, 328, .inl s_dn)), (sd 4, .inl (cyI, 328, .inl s_up))] H := hP
      have hD : va_D A [(hX, .inr (6, [.ref (xd 0), .int x_tapeLength, .ref hp, .ref hd, .ref hR0, .ref hu, .ref (xd 6), .int x_at, .int x_top, .ref hs, .ref hT, .ref (xd 11), .ref (xd 12), .ref (xd 13), .int x_lyingCount, .ref (xd 15), .int x_fewest, .ref hg, .ref (xd 18), .int x_time])), (hs, .inr (5, [.ref (sd 0), .ref (sd 1), .ref (sd 2), .ref (sd 3), .ref (sd 4), .ref (sd 5), .ref (sd 6), .int s_size, .int s_copier, .int s_copyLeft, .int s_tick, .int s_seed, .int s_dropped])), (sd 0, .inl (cyI, 6, .inl s_row)), (sd 1, .inl (cyI, 8, .inl s_has)), (sd 2, .inl (cyI, 8, .inl s_clean)), (sd 3, .inl (cyI, 328, .inl s_dn)), (sd 4, .inl (cyI, 328, .inl s_up))] := hD
      exact W.iret (v := r17071) hx hb hr (fun t ht hW => ⟨⟨r17071, (), rfl, trivial, cE.of ht hP hD [0, 1, 2, 3, 4, 5, 6] (by decide) rfl⟩, hS.F ht⟩) hS.2.2 dX6_due_32
    · have c17070 := i_eq (a := r17064.toInt) (b := 0) c17070 rfl (by decide)
      refine lv_iconst (v := (-1)) hx hb dX6_due_21 (by decide) ?_
      exact W.iret (v := (-1)) hx hb hr (fun t ht hW => ⟨⟨(-1), (), rfl, trivial, cE.of ht hP hD [2, 3, 4, 5, 6, 0, 1] (by decide) rfl⟩, hS.F ht⟩) hS.2.2 dX6_due_22
  · skip
    refine lv_if_eq (tgt := 21) hx hb dX6_due_6 (by decide) (fun _ => ?_) (fun c17073 => absurd (by decide) c17073)
    refine lv_iconst (v := (-1)) hx hb dX6_due_21 (by decide) ?_
    exact W.iret (v := (-1)) hx hb hr (fun t ht hW => ⟨⟨(-1), (), rfl, trivial, cE.of ht hP hD [5, 6, 0, 1, 2, 3, 4] (by decide) rfl⟩, hS.F ht⟩) hS.2.2 dX6_due_22
def wo_k_X_wrote : List Cond := [.fieldLink RX6 110 "ReplicaChain" "now" "LReplicaChain$State;", .methodLink RX6 195 yX5_headHas, .instanceMethod yX5_headHas, .selects RX5 yX5_headHas yX5_headHas, .initialized RX5, .fieldLink RX6 198 "ReplicaChain$State" "keys" "[I", .fieldLink RX6 201 "ReplicaChain$State" "values" "[I", .methodLink RX6 204 yX5_headClean, .instanceMethod yX5_headClean, .selects RX5 yX5_headClean yX5_headClean, .fieldLink RX6 170 "ReplicaChain$State" "has" "[I", .methodLink RX6 207 yX5_whoReaches, .instanceMethod yX5_whoReaches, .selects RX5 yX5_whoReaches yX5_whoReaches, .fieldLink RX6 173 "ReplicaChain$State" "clean" "[I"]
def wq_k_X_wrote : List Cond := .code yX6_wrote cX6_wrote 3 (some .int) :: (wo_k_X_wrote ++ (wq_k_St_headHas ++ (wq_k_St_headClean ++ (wq_k_St_whoReaches_has ++ (wq_k_St_whoReaches_clean ++ (wsX50 ++ (wsX60 ++ [])))))))
theorem gd_k_X_wrote : Gd wq_k_X_wrote := gd_c (gd_a (gd_o (by decide +kernel)) (gd_a gd_k_St_headHas (gd_a gd_k_St_headClean (gd_a gd_k_St_whoReaches_has (gd_a gd_k_St_whoReaches_clean (gd_a gd_u (gd_a gd_u gd_0)))))))
abbrev wc_k_X_wrote (cyB cyI cyJ cyZ cyO : ClassId) (hX : Nat) (xd : Nat → Nat) (x_tapeLength : Int32) (x_at : Int32) (x_top : Int32) (x_lyingCount : Int32) (x_fewest : Int32) (x_time : Int32) (hs : Nat) (sd : Nat → Nat) (s_row : Nat → Int32) (s_has : Nat → Int32) (s_clean : Nat → Int32) (s_ks : Nat → Int32) (s_vs : Nat → Int32) (s_size : Int32) (s_copier : Int32) (s_copyLeft : Int32) (s_tick : Int32) (s_seed : Int32) (s_dropped : Int32) (x1 : Int32) (x2 : Int32) (hp : Nat) (hd : Nat) (hR0 : Nat) (hu : Nat) (hT : Nat) (hg : Nat) : va_W := [(hX, .inr (6, [.ref (xd 0), .int x_tapeLength, .ref hp, .ref hd, .ref hR0, .ref hu, .ref (xd 6), .int x_at, .int x_top, .ref hs, .ref hT, .ref (xd 11), .ref (xd 12), .ref (xd 13), .int x_lyingCount, .ref (xd 15), .int x_fewest, .ref hg, .ref (xd 18), .int x_time])), (hs, .inr (5, [.ref (sd 0), .ref (sd 1), .ref (sd 2), .ref (sd 3), .ref (sd 4), .ref (sd 5), .ref (sd 6), .int s_size, .int s_copier, .int s_copyLeft, .int s_tick, .int s_seed, .int s_dropped])), (sd 0, .inl (cyI, 6, .inl s_row)), (sd 1, .inl (cyI, 8, .inl s_has)), (sd 2, .inl (cyI, 8, .inl s_clean)), (sd 5, .inl (cyI, 41, .inl s_ks)), (sd 6, .inl (cyI, 41, .inl s_vs))]
set_option maxHeartbeats 4000000 in
set_option maxRecDepth 100000 in
theorem k_X_wrote (l : Launch) (dC : Nat → ClassId) (dI : Nat → Nat → Nat) (cyB cyI cyJ cyZ cyO : ClassId) (hX : Nat) (xd : Nat → Nat) (x_tapeLength : Int32) (x_at : Int32) (x_top : Int32) (x_lyingCount : Int32) (x_fewest : Int32) (x_time : Int32) (hs : Nat) (sd : Nat → Nat) (s_row : Nat → Int32) (s_has : Nat → Int32) (s_clean : Nat → Int32) (s_ks : Nat → Int32) (s_vs : Nat → Int32) (s_size : Int32) (s_copier : Int32) (s_copyLeft : Int32) (s_tick : Int32) (s_seed : Int32) (s_dropped : Int32) (x1 : Int32) (x2 : Int32) (hp : Nat) (hd : Nat) (hR0 : Nat) (hu : Nat) (hT : Nat) (hg : Nat) (sz : Nat) (l_x_tapeLength : 0 ≤ x_tapeLength.toInt) (u_x_tapeLength : x_tapeLength.toInt ≤ 1600) (l_x_at : 0 ≤ x_at.toInt) (u_x_at : x_at.toInt ≤ 40) (l_x_top : 0 ≤ x_top.toInt) (u_x_top : x_top.toInt ≤ 40) (l_x_lyingCount : 0 ≤ x_lyingCount.toInt) (u_x_lyingCount : x_lyingCount.toInt ≤ 6) (l_x_time : 0 ≤ x_time.toInt) (u_x_time : x_time.toInt ≤ 100000) (l_s_size : 0 ≤ s_size.toInt) (u_s_size : s_size.toInt ≤ 6) (l_s_copier : -1 ≤ s_copier.toInt) (u_s_copier : s_copier.toInt ≤ 7) (l_s_seed : 0 ≤ s_seed.toInt) (u_s_seed : s_seed.toInt ≤ 999) (i0_s_row : In2 s_row 0 6 (0) (7)) (i0_s_has : In2 s_has 0 8 (0) (40)) (i0_s_clean : In2 s_clean 0 8 (0) (40)) : Met l yX6_wrote wq_k_X_wrote ({ frames := 1, cells := 0, slots := 0, locals := 24 }) (va_Pc [.ref hX, .int x1, .int x2] (cB (dC, dI) (kT cyB cyI cyJ cyZ cyO) (wc_k_X_wrote cyB cyI cyJ cyZ cyO hX xd x_tapeLength x_at x_top x_lyingCount x_fewest x_time hs sd s_row s_has s_clean s_ks s_vs s_size s_copier s_copyLeft s_tick s_seed s_dropped x1 x2 hp hd hR0 hu hT hg) sz)) (va_Qi (fun (r : Int32) (u : Unit) => True) (fun (u : Unit) t => cE (dC, dI) (va_A (wc_k_X_wrote cyB cyI cyJ cyZ cyO hX xd x_tapeLength x_at x_top x_lyingCount x_fewest x_time hs sd s_row s_has s_clean s_ks s_vs s_size s_copier s_copyLeft s_tick s_seed s_dropped x1 x2 hp hd hR0 hu hT hg) sz) ([(hX, .inr (6, [.ref (xd 0), .int x_tapeLength, .ref hp, .ref hd, .ref hR0, .ref hu, .ref (xd 6), .int x_at, .int x_top, .ref hs, .ref hT, .ref (xd 11), .ref (xd 12), .ref (xd 13), .int x_lyingCount, .ref (xd 15), .int x_fewest, .ref hg, .ref (xd 18), .int x_time])), (hs, .inr (5, [.ref (sd 0), .ref (sd 1), .ref (sd 2), .ref (sd 3), .ref (sd 4), .ref (sd 5), .ref (sd 6), .int s_size, .int s_copier, .int s_copyLeft, .int s_tick, .int s_seed, .int s_dropped])), (sd 0, .inl (cyI, 6, .inl s_row)), (sd 1, .inl (cyI, 8, .inl s_has)), (sd 2, .inl (cyI, 8, .inl s_clean)), (sd 5, .inl (cyI, 41, .inl s_ks)), (sd 6, .inl (cyI, 41, .inl s_vs))]) t.heap) (va_A (wc_k_X_wrote cyB cyI cyJ cyZ cyO hX xd x_tapeLength x_at x_top x_lyingCount x_fewest x_time hs sd s_row s_has s_clean s_ks s_vs s_size s_copier s_copyLeft s_tick s_seed s_dropped x1 x2 hp hd hR0 hu hT hg) sz)) 0 0 (va_A (wc_k_X_wrote cyB cyI cyJ cyZ cyO hX xd x_tapeLength x_at x_top x_lyingCount x_fewest x_time hs sd s_row s_has s_clean s_ks s_vs s_size s_copier s_copyLeft s_tick s_seed s_dropped x1 x2 hp hd hR0 hu hT hg) sz) := by
  refine Met.ofW (cc := cX6_wrote) (maxL := 3) (ret := (some .int)) (by decide) rfl ?_
  intro p e s m args below meth c s₁ B hml hv
  obtain ⟨rfl, hsz, hP, hKN, hD0⟩ := hv
  have hx := B.exec
  have hb := B.bytes
  have hr := B.returns
  have hts := atoms_spec (ws := wq_k_X_wrote) B.pre
  have hown : s.vm.findClass RX6 = some m.cls := findClass_of_methodNamed B.named
  have hlocks := B.notSynchronized
  have hK := hKN.1
  have hfix : CallFix p m c cX6_wrote 3 s [.ref hX, .int x1, .int x2].toArray wq_k_X_wrote RX6 := ⟨hx, hb, hml, hown, hts⟩
  have hi5 : ∀ w ∈ wsX50, w ∈ wq_k_X_wrote := (sb_c (sb_r (sb_r (sb_r (sb_r sb_l)))))
  have hi6 : ∀ w ∈ wsX60, w ∈ wq_k_X_wrote := (sb_c (sb_r (sb_r (sb_r (sb_r (sb_r sb_l))))))
  subst hsz
  have hD := hD0.self (sz := s.heap.size)
  generalize hAe : va_A (wc_k_X_wrote cyB cyI cyJ cyZ cyO hX xd x_tapeLength x_at x_top x_lyingCount x_fewest x_time hs sd s_row s_has s_clean s_ks s_vs s_size s_copier s_copyLeft s_tick s_seed s_dropped x1 x2 hp hd hR0 hu hT hg) s.heap.size = A at hD ⊢
  have hA : ∀ q : Nat, s.heap.size ≤ q → A q := fun q h => by rw [← hAe]; exact Or.inr h
  have hS : va_S A s.heap s.heap [] := va_S.rf
  have hl := lv_entry ([.ref hX, .int x1, .int x2]) (n := 3) (Nat.le_of_ble_eq_true rfl)
  rw [lg_entry_eq]
  generalize (lg_sl ([.ref hX, .int x1, .int x2]) ++ List.replicate (3 - (lg_sl ([.ref hX, .int x1, .int x2])).length) Slot.unset).toArray = ls at hl ⊢
  have hl : lv_has ls 3 [(0, .ref hX), (1, .int x1), (2, .int x2)] := hl
  refine lv_iload_n hx hb dX6_wrote_0 rfl (lv_at hl 1 rfl) ?_
  refine lv_iconst (v := 1) hx hb dX6_wrote_1 (by decide) ?_
  refine lv_icmp_lt (tgt := 16) hx hb dX6_wrote_2 (by decide) (fun c17118 => ?_) (fun c17118 => ?_)
  · have c17118 := i_lt (a := x1.toInt) (b := 1) c17118 rfl (by decide)
    refine lv_iconst (v := (-1)) hx hb dX6_wrote_16 (by decide) ?_
    exact W.iret (v := (-1)) hx hb hr (fun t ht hW => ⟨⟨(-1), (), rfl, trivial, cE.of ht hP hD [0, 1, 2, 3, 4, 5, 6] (by decide) rfl⟩, hS.F ht⟩) hS.2.2 dX6_wrote_17
  · have c17118 := i_nlt (a := x1.toInt) (b := 1) c17118 rfl (by decide)
    refine lv_iload_n hx hb dX6_wrote_5 rfl (lv_at hl 1 rfl) ?_
    refine lv_aload_n hx hb dX6_wrote_6 rfl (lv_at hl 0 rfl) ?_
    refine va_get (D := (dC, dI)) (ci := 6) (v := .ref hs) (C := RX6) (T := TX6) (N := 20) hx hb hts hi6 hown hK hP 0 rfl rfl 9 (by decide) (hts _ (ow_m (k := 0) rfl)) (fun _ h9 => h9) rfl dX6_wrote_7 ?_
    refine gf_i (wr := [(hX, .inr (6, [.ref (xd 0), .int x_tapeLength, .ref hp, .ref hd, .ref hR0, .ref hu, .ref (xd 6), .int x_at, .int x_top, .ref hs, .ref hT, .ref (xd 11), .ref (xd 12), .ref (xd 13), .int x_lyingCount, .ref (xd 15), .int x_fewest, .ref hg, .ref (xd 18), .int x_time])), (sd 2, .inl (cyI, 8, .inl s_clean)), (sd 5, .inl (cyI, 41, .inl s_ks)), (sd 6, .inl (cyI, 41, .inl s_vs))]) (va_runV (As := []) (rest := [.int x1]) hfix (k_St_headHas l dC dI cyB cyI cyJ cyZ cyO hs sd s_row s_has s_size s_copier s_copyLeft s_tick s_seed s_dropped _ (by first | omega | assumption) (by first | omega | assumption) (by first | omega | assumption) (by first | omega | assumption) (by first | omega | assumption) (by first | omega | assumption) i0_s_row i0_s_has) (cwV 0 hts (gi_V (ow_m (k := 1) rfl) (ow_m (k := 2) rfl) (ow_m (k := 3) rfl) (ow_m (k := 4) rfl) (sb_c sb_l) gd_k_St_headHas) rfl rfl rfl (by decide +kernel) ⟨Nat.le_of_ble_eq_true rfl, Nat.le_of_ble_eq_true rfl⟩) (g_preV hKN hP hD [1, 2, 3] rfl (by decide) 0 5 rfl rfl) rfl rfl hl.1 rfl (lv_room (Nat.le_of_ble_eq_true rfl)) dX6_wrote_10 ⟨Nat.le_of_ble_eq_true rfl, Nat.le_of_ble_eq_true rfl⟩) hP hD hS hA [1, 2, 3] [0, 4, 5, 6] rfl rfl (by decide) (by decide) (fun r17119 u17120 H locs qu17120 hP hD hS => ?_)
    obtain ⟨b17121, b17122⟩ := qu17120
    have hP : va_P (dC, dI) vwCl [(hX, .inr (6, [.ref (xd 0), .int x_tapeLength, .ref hp, .ref hd, .ref hR0, .ref hu, .ref (xd 6), .int x_at, .int x_top, .ref hs, .ref hT, .ref (xd 11), .ref (xd 12), .ref (xd 13), .int x_lyingCount, .ref (xd 15), .int x_fewest, .ref hg, .ref (xd 18), .int x_time])), (sd 2, .inl (cyI, 8, .inl s_clean)), (sd 5, .inl (cyI, 41, .inl s_ks)), (sd 6, .inl (cyI, 41, .inl s_vs)), (hs, .inr (5, [.ref (sd 0), .ref (sd 1), .ref (sd 2), .ref (sd 3), .ref (sd 4), .ref (sd 5), .ref (sd 6), .int s_size, .int s_copier, .int s_copyLeft, .int s_tick, .int s_seed, .int s_dropped])), (sd 0, .inl (cyI, 6, .inl s_row)), (sd 1, .inl (cyI, 8, .inl s_has))] H := hP
    have hD : va_D A [(hX, .inr (6, [.ref (xd 0), .int x_tapeLength, .ref hp, .ref hd, .ref hR0, .ref hu, .ref (xd 6), .int x_at, .int x_top, .ref hs, .ref hT, .ref (xd 11), .ref (xd 12), .ref (xd 13), .int x_lyingCount, .ref (xd 15), .int x_fewest, .ref hg, .ref (xd 18), .int x_time])), (sd 2, .inl (cyI, 8, .inl s_clean)), (sd 5, .inl (cyI, 41, .inl s_ks)), (sd 6, .inl (cyI, 41, .inl s_vs)), (hs, .inr (5, [.ref (sd 0), .ref (sd 1), .ref (sd 2), .ref (sd 3), .ref (sd 4), .ref (sd 5), .ref (sd 6), .int s_size, .int s_copier, .int s_copyLeft, .int s_tick, .int s_seed, .int s_dropped])), (sd 0, .inl (cyI, 6, .inl s_row)), (sd 1, .inl (cyI, 8, .inl s_has))] := hD
    refine lv_icmp_le (tgt := 18) hx hb dX6_wrote_13 (by decide) (fun c17123 => ?_) (fun c17123 => ?_)
    · have c17123 := i_le (a := x1.toInt) (b := r17119.toInt) c17123 rfl rfl
      refine lv_iload_n hx hb dX6_wrote_18 rfl (lv_at hl 2 rfl) ?_
      by_cases c17124 : x2 = 0
      · have c17124i := i_eq (b := 0) c17124 rfl (by decide)
        refine lv_tableIn (tgt := 52) hx hb dX6_wrote_19 (by rw [c17124]; decide) (by rw [c17124]; decide) (by first | (rw [c17124]; done) | (rw [c17124]; rfl)) (by decide) ?_
        refine lv_aload_n hx hb dX6_wrote_52 rfl (lv_at hl 0 rfl) ?_
        refine va_get (D := (dC, dI)) (ci := 6) (v := .ref hs) (C := RX6) (T := TX6) (N := 20) hx hb hts hi6 hown hK hP 0 rfl rfl 9 (by decide) (hts _ (ow_m (k := 0) rfl)) (fun _ h9 => h9) rfl dX6_wrote_53 ?_
        refine va_get (D := (dC, dI)) (ci := 5) (v := .ref (sd 5)) (C := RX5) (T := TX5) (N := 13) hx hb hts hi5 hown hK hP 4 rfl rfl 5 (by decide) (hts _ (ow_m (k := 5) rfl)) (fun _ h9 => h9) rfl dX6_wrote_56 ?_
        refine lv_iload_n hx hb dX6_wrote_59 rfl (lv_at hl 1 rfl) ?_
        refine va_iald hx hb hK hP 2 1 rfl rfl (vp_i rfl (by omega) (by omega)) dX6_wrote_60 ?_
        refine lv_topi (fun z17125 ez17125 => ?_)
        exact W.iret (v := z17125) hx hb hr (fun t ht hW => ⟨⟨z17125, (), rfl, trivial, cE.of ht hP hD [0, 4, 5, 6, 1, 2, 3] (by decide) rfl⟩, hS.F ht⟩) hS.2.2 dX6_wrote_61
      have c17124i := i_ne (b := 0) c17124 rfl (by decide)
      by_cases c17126 : x2 = 1
      · have c17126i := i_eq (b := 1) c17126 rfl (by decide)
        refine lv_tableIn (tgt := 62) hx hb dX6_wrote_19 (by rw [c17126]; decide) (by rw [c17126]; decide) (by first | (rw [c17126]; done) | (rw [c17126]; rfl)) (by decide) ?_
        refine lv_aload_n hx hb dX6_wrote_62 rfl (lv_at hl 0 rfl) ?_
        refine va_get (D := (dC, dI)) (ci := 6) (v := .ref hs) (C := RX6) (T := TX6) (N := 20) hx hb hts hi6 hown hK hP 0 rfl rfl 9 (by decide) (hts _ (ow_m (k := 0) rfl)) (fun _ h9 => h9) rfl dX6_wrote_63 ?_
        refine va_get (D := (dC, dI)) (ci := 5) (v := .ref (sd 6)) (C := RX5) (T := TX5) (N := 13) hx hb hts hi5 hown hK hP 4 rfl rfl 6 (by decide) (hts _ (ow_m (k := 6) rfl)) (fun _ h9 => h9) rfl dX6_wrote_66 ?_
        refine lv_iload_n hx hb dX6_wrote_69 rfl (lv_at hl 1 rfl) ?_
        refine va_iald hx hb hK hP 3 1 rfl rfl (vp_i rfl (by omega) (by omega)) dX6_wrote_70 ?_
        refine lv_topi (fun z17127 ez17127 => ?_)
        exact W.iret (v := z17127) hx hb hr (fun t ht hW => ⟨⟨z17127, (), rfl, trivial, cE.of ht hP hD [0, 4, 5, 6, 1, 2, 3] (by decide) rfl⟩, hS.F ht⟩) hS.2.2 dX6_wrote_71
      have c17126i := i_ne (b := 1) c17126 rfl (by decide)
      by_cases c17128 : x2 = 2
      · have c17128i := i_eq (b := 2) c17128 rfl (by decide)
        refine lv_tableIn (tgt := 72) hx hb dX6_wrote_19 (by rw [c17128]; decide) (by rw [c17128]; decide) (by first | (rw [c17128]; done) | (rw [c17128]; rfl)) (by decide) ?_
        refine lv_aload_n hx hb dX6_wrote_72 rfl (lv_at hl 0 rfl) ?_
        refine va_get (D := (dC, dI)) (ci := 6) (v := .ref hs) (C := RX6) (T := TX6) (N := 20) hx hb hts hi6 hown hK hP 0 rfl rfl 9 (by decide) (hts _ (ow_m (k := 0) rfl)) (fun _ h9 => h9) rfl dX6_wrote_73 ?_
        refine gf_i (wr := [(hX, .inr (6, [.ref (xd 0), .int x_tapeLength, .ref hp, .ref hd, .ref hR0, .ref hu, .ref (xd 6), .int x_at, .int x_top, .ref hs, .ref hT, .ref (xd 11), .ref (xd 12), .ref (xd 13), .int x_lyingCount, .ref (xd 15), .int x_fewest, .ref hg, .ref (xd 18), .int x_time])), (sd 5, .inl (cyI, 41, .inl s_ks)), (sd 6, .inl (cyI, 41, .inl s_vs)), (sd 1, .inl (cyI, 8, .inl s_has))]) (va_runV (As := []) (rest := []) hfix (k_St_headClean l dC dI cyB cyI cyJ cyZ cyO hs sd s_row s_clean s_size s_copier s_copyLeft s_tick s_seed s_dropped _ (by first | omega | assumption) (by first | omega | assumption) (by first | omega | assumption) (by first | omega | assumption) (by first | omega | assumption) (by first | omega | assumption) i0_s_row i0_s_clean) (cwV 0 hts (gi_V (ow_m (k := 7) rfl) (ow_m (k := 8) rfl) (ow_m (k := 9) rfl) (ow_m (k := 4) rfl) (sb_c (sb_r sb_l)) gd_k_St_headClean) rfl rfl rfl (by decide +kernel) ⟨Nat.le_of_ble_eq_true rfl, Nat.le_of_ble_eq_true rfl⟩) (g_preV hKN hP hD [4, 5, 1] rfl (by decide) 0 5 rfl rfl) rfl rfl hl.1 rfl (lv_room (Nat.le_of_ble_eq_true rfl)) dX6_wrote_76 ⟨Nat.le_of_ble_eq_true rfl, Nat.le_of_ble_eq_true rfl⟩) hP hD hS hA [4, 5, 1] [0, 2, 3, 6] rfl rfl (by decide) (by decide) (fun r17129 u17130 H locs qu17130 hP hD hS => ?_)
        obtain ⟨b17131, b17132⟩ := qu17130
        have hP : va_P (dC, dI) vwCl [(hX, .inr (6, [.ref (xd 0), .int x_tapeLength, .ref hp, .ref hd, .ref hR0, .ref hu, .ref (xd 6), .int x_at, .int x_top, .ref hs, .ref hT, .ref (xd 11), .ref (xd 12), .ref (xd 13), .int x_lyingCount, .ref (xd 15), .int x_fewest, .ref hg, .ref (xd 18), .int x_time])), (sd 5, .inl (cyI, 41, .inl s_ks)), (sd 6, .inl (cyI, 41, .inl s_vs)), (sd 1, .inl (cyI, 8, .inl s_has)), (hs, .inr (5, [.ref (sd 0), .ref (sd 1), .ref (sd 2), .ref (sd 3), .ref (sd 4), .ref (sd 5), .ref (sd 6), .int s_size, .int s_copier, .int s_copyLeft, .int s_tick, .int s_seed, .int s_dropped])), (sd 0, .inl (cyI, 6, .inl s_row)), (sd 2, .inl (cyI, 8, .inl s_clean))] H := hP
        have hD : va_D A [(hX, .inr (6, [.ref (xd 0), .int x_tapeLength, .ref hp, .ref hd, .ref hR0, .ref hu, .ref (xd 6), .int x_at, .int x_top, .ref hs, .ref hT, .ref (xd 11), .ref (xd 12), .ref (xd 13), .int x_lyingCount, .ref (xd 15), .int x_fewest, .ref hg, .ref (xd 18), .int x_time])), (sd 5, .inl (cyI, 41, .inl s_ks)), (sd 6, .inl (cyI, 41, .inl s_vs)), (sd 1, .inl (cyI, 8, .inl s_has)), (hs, .inr (5, [.ref (sd 0), .ref (sd 1), .ref (sd 2), .ref (sd 3), .ref (sd 4), .ref (sd 5), .ref (sd 6), .int s_size, .int s_copier, .int s_copyLeft, .int s_tick, .int s_seed, .int s_dropped])), (sd 0, .inl (cyI, 6, .inl s_row)), (sd 2, .inl (cyI, 8, .inl s_clean))] := hD
        refine lv_iload_n hx hb dX6_wrote_79 rfl (lv_at hl 1 rfl) ?_
        refine lv_icmp_lt (tgt := 87) hx hb dX6_wrote_80 (by decide) (fun c17133 => ?_) (fun c17133 => ?_)
        · have c17133 := i_lt (a := r17129.toInt) (b := x1.toInt) c17133 rfl rfl
          refine lv_iconst (v := 0) hx hb dX6_wrote_87 (by decide) ?_
          exact W.iret (v := 0) hx hb hr (fun t ht hW => ⟨⟨0, (), rfl, trivial, cE.of ht hP hD [0, 4, 5, 3, 6, 1, 2] (by decide) rfl⟩, hS.F ht⟩) hS.2.2 dX6_wrote_88
        · have c17133 := i_nlt (a := r17129.toInt) (b := x1.toInt) c17133 rfl rfl
          refine lv_iconst (v := 1) hx hb dX6_wrote_83 (by decide) ?_
          refine lv_goto (tgt := 88) hx hb dX6_wrote_84 (by decide) ?_
          exact W.iret (v := 1) hx hb hr (fun t ht hW => ⟨⟨1, (), rfl, trivial, cE.of ht hP hD [0, 4, 5, 3, 6, 1, 2] (by decide) rfl⟩, hS.F ht⟩) hS.2.2 dX6_wrote_88
      have c17128i := i_ne (b := 2) c17128 rfl (by decide)
      by_cases c17134 : x2 = 3
      · have c17134i := i_eq (b := 3) c17134 rfl (by decide)
        refine lv_tableIn (tgt := 89) hx hb dX6_wrote_19 (by rw [c17134]; decide) (by rw [c17134]; decide) (by first | (rw [c17134]; done) | (rw [c17134]; rfl)) (by decide) ?_
        refine lv_aload_n hx hb dX6_wrote_89 rfl (lv_at hl 0 rfl) ?_
        refine va_get (D := (dC, dI)) (ci := 6) (v := .ref hs) (C := RX6) (T := TX6) (N := 20) hx hb hts hi6 hown hK hP 0 rfl rfl 9 (by decide) (hts _ (ow_m (k := 0) rfl)) (fun _ h9 => h9) rfl dX6_wrote_90 ?_
        refine lv_aload_n hx hb dX6_wrote_93 rfl (lv_at hl 0 rfl) ?_
        refine va_get (D := (dC, dI)) (ci := 6) (v := .ref hs) (C := RX6) (T := TX6) (N := 20) hx hb hts hi6 hown hK hP 0 rfl rfl 9 (by decide) (hts _ (ow_m (k := 0) rfl)) (fun _ h9 => h9) rfl dX6_wrote_94 ?_
        refine va_get (D := (dC, dI)) (ci := 5) (v := .ref (sd 1)) (C := RX5) (T := TX5) (N := 13) hx hb hts hi5 hown hK hP 4 rfl rfl 1 (by decide) (hts _ (ow_m (k := 10) rfl)) (fun _ h9 => h9) rfl dX6_wrote_97 ?_
        refine lv_iload_n hx hb dX6_wrote_100 rfl (lv_at hl 1 rfl) ?_
        refine gf_i (wr := [(hX, .inr (6, [.ref (xd 0), .int x_tapeLength, .ref hp, .ref hd, .ref hR0, .ref hu, .ref (xd 6), .int x_at, .int x_top, .ref hs, .ref hT, .ref (xd 11), .ref (xd 12), .ref (xd 13), .int x_lyingCount, .ref (xd 15), .int x_fewest, .ref hg, .ref (xd 18), .int x_time])), (sd 2, .inl (cyI, 8, .inl s_clean)), (sd 5, .inl (cyI, 41, .inl s_ks)), (sd 6, .inl (cyI, 41, .inl s_vs))]) (va_runV (As := [.ref (sd 1), .int x1]) (rest := []) hfix (k_St_whoReaches_has l dC dI cyB cyI cyJ cyZ cyO hs sd s_row s_has s_size s_copier s_copyLeft s_tick s_seed s_dropped x1 _ (by first | omega | assumption) (by first | omega | assumption) (by first | omega | assumption) (by first | omega | assumption) (by first | omega | assumption) (by first | omega | assumption) i0_s_row i0_s_has) (cwV 2 hts (gi_V (ow_m (k := 11) rfl) (ow_m (k := 12) rfl) (ow_m (k := 13) rfl) (ow_m (k := 4) rfl) (sb_c (sb_r (sb_r sb_l))) gd_k_St_whoReaches_has) rfl rfl rfl (by decide +kernel) ⟨Nat.le_of_ble_eq_true rfl, Nat.le_of_ble_eq_true rfl⟩) (g_preV hKN hP hD [4, 5, 6] rfl (by decide) 0 5 rfl rfl) rfl rfl hl.1 rfl (lv_room (Nat.le_of_ble_eq_true rfl)) dX6_wrote_101 ⟨Nat.le_of_ble_eq_true rfl, Nat.le_of_ble_eq_true rfl⟩) hP hD hS hA [4, 5, 6] [0, 1, 2, 3] rfl rfl (by decide) (by decide) (fun r17135 u17136 H locs qu17136 hP hD hS => ?_)
        have hP : va_P (dC, dI) vwCl [(hX, .inr (6, [.ref (xd 0), .int x_tapeLength, .ref hp, .ref hd, .ref hR0, .ref hu, .ref (xd 6), .int x_at, .int x_top, .ref hs, .ref hT, .ref (xd 11), .ref (xd 12), .ref (xd 13), .int x_lyingCount, .ref (xd 15), .int x_fewest, .ref hg, .ref (xd 18), .int x_time])), (sd 2, .inl (cyI, 8, .inl s_clean)), (sd 5, .inl (cyI, 41, .inl s_ks)), (sd 6, .inl (cyI, 41, .inl s_vs)), (hs, .inr (5, [.ref (sd 0), .ref (sd 1), .ref (sd 2), .ref (sd 3), .ref (sd 4), .ref (sd 5), .ref (sd 6), .int s_size, .int s_copier, .int s_copyLeft, .int s_tick, .int s_seed, .int s_dropped])), (sd 0, .inl (cyI, 6, .inl s_row)), (sd 1, .inl (cyI, 8, .inl s_has))] H := hP
        have hD : va_D A [(hX, .inr (6, [.ref (xd 0), .int x_tapeLength, .ref hp, .ref hd, .ref hR0, .ref hu, .ref (xd 6), .int x_at, .int x_top, .ref hs, .ref hT, .ref (xd 11), .ref (xd 12), .ref (xd 13), .int x_lyingCount, .ref (xd 15), .int x_fewest, .ref hg, .ref (xd 18), .int x_time])), (sd 2, .inl (cyI, 8, .inl s_clean)), (sd 5, .inl (cyI, 41, .inl s_ks)), (sd 6, .inl (cyI, 41, .inl s_vs)), (hs, .inr (5, [.ref (sd 0), .ref (sd 1), .ref (sd 2), .ref (sd 3), .ref (sd 4), .ref (sd 5), .ref (sd 6), .int s_size, .int s_copier, .int s_copyLeft, .int s_tick, .int s_seed, .int s_dropped])), (sd 0, .inl (cyI, 6, .inl s_row)), (sd 1, .inl (cyI, 8, .inl s_has))] := hD
        exact W.iret (v := r17135) hx hb hr (fun t ht hW => ⟨⟨r17135, (), rfl, trivial, cE.of ht hP hD [0, 4, 5, 6, 1, 2, 3] (by decide) rfl⟩, hS.F ht⟩) hS.2.2 dX6_wrote_104
      have c17134i := i_ne (b := 3) c17134 rfl (by decide)
      by_cases c17137 : x2 = 4
      · have c17137i := i_eq (b := 4) c17137 rfl (by decide)
        refine lv_tableIn (tgt := 105) hx hb dX6_wrote_19 (by rw [c17137]; decide) (by rw [c17137]; decide) (by first | (rw [c17137]; done) | (rw [c17137]; rfl)) (by decide) ?_
        refine lv_aload_n hx hb dX6_wrote_105 rfl (lv_at hl 0 rfl) ?_
        refine va_get (D := (dC, dI)) (ci := 6) (v := .ref hs) (C := RX6) (T := TX6) (N := 20) hx hb hts hi6 hown hK hP 0 rfl rfl 9 (by decide) (hts _ (ow_m (k := 0) rfl)) (fun _ h9 => h9) rfl dX6_wrote_106 ?_
        refine lv_aload_n hx hb dX6_wrote_109 rfl (lv_at hl 0 rfl) ?_
        refine va_get (D := (dC, dI)) (ci := 6) (v := .ref hs) (C := RX6) (T := TX6) (N := 20) hx hb hts hi6 hown hK hP 0 rfl rfl 9 (by decide) (hts _ (ow_m (k := 0) rfl)) (fun _ h9 => h9) rfl dX6_wrote_110 ?_
        refine va_get (D := (dC, dI)) (ci := 5) (v := .ref (sd 2)) (C := RX5) (T := TX5) (N := 13) hx hb hts hi5 hown hK hP 4 rfl rfl 2 (by decide) (hts _ (ow_m (k := 14) rfl)) (fun _ h9 => h9) rfl dX6_wrote_113 ?_
        refine lv_iload_n hx hb dX6_wrote_116 rfl (lv_at hl 1 rfl) ?_
        refine gf_i (wr := [(hX, .inr (6, [.ref (xd 0), .int x_tapeLength, .ref hp, .ref hd, .ref hR0, .ref hu, .ref (xd 6), .int x_at, .int x_top, .ref hs, .ref hT, .ref (xd 11), .ref (xd 12), .ref (xd 13), .int x_lyingCount, .ref (xd 15), .int x_fewest, .ref hg, .ref (xd 18), .int x_time])), (sd 5, .inl (cyI, 41, .inl s_ks)), (sd 6, .inl (cyI, 41, .inl s_vs)), (sd 1, .inl (cyI, 8, .inl s_has))]) (va_runV (As := [.ref (sd 2), .int x1]) (rest := []) hfix (k_St_whoReaches_clean l dC dI cyB cyI cyJ cyZ cyO hs sd s_row s_clean s_size s_copier s_copyLeft s_tick s_seed s_dropped x1 _ (by first | omega | assumption) (by first | omega | assumption) (by first | omega | assumption) (by first | omega | assumption) (by first | omega | assumption) (by first | omega | assumption) i0_s_row i0_s_clean) (cwV 2 hts (gi_V (ow_m (k := 11) rfl) (ow_m (k := 12) rfl) (ow_m (k := 13) rfl) (ow_m (k := 4) rfl) (sb_c (sb_r (sb_r (sb_r sb_l)))) gd_k_St_whoReaches_clean) rfl rfl rfl (by decide +kernel) ⟨Nat.le_of_ble_eq_true rfl, Nat.le_of_ble_eq_true rfl⟩) (g_preV hKN hP hD [4, 5, 1] rfl (by decide) 0 5 rfl rfl) rfl rfl hl.1 rfl (lv_room (Nat.le_of_ble_eq_true rfl)) dX6_wrote_117 ⟨Nat.le_of_ble_eq_true rfl, Nat.le_of_ble_eq_true rfl⟩) hP hD hS hA [4, 5, 1] [0, 2, 3, 6] rfl rfl (by decide) (by decide) (fun r17138 u17139 H locs qu17139 hP hD hS => ?_)
        have hP : va_P (dC, dI) vwCl [(hX, .inr (6, [.ref (xd 0), .int x_tapeLength, .ref hp, .ref hd, .ref hR0, .ref hu, .ref (xd 6), .int x_at, .int x_top, .ref hs, .ref hT, .ref (xd 11), .ref (xd 12), .ref (xd 13), .int x_lyingCount, .ref (xd 15), .int x_fewest, .ref hg, .ref (xd 18), .int x_time])), (sd 5, .inl (cyI, 41, .inl s_ks)), (sd 6, .inl (cyI, 41, .inl s_vs)), (sd 1, .inl (cyI, 8, .inl s_has)), (hs, .inr (5, [.ref (sd 0), .ref (sd 1), .ref (sd 2), .ref (sd 3), .ref (sd 4), .ref (sd 5), .ref (sd 6), .int s_size, .int s_copier, .int s_copyLeft, .int s_tick, .int s_seed, .int s_dropped])), (sd 0, .inl (cyI, 6, .inl s_row)), (sd 2, .inl (cyI, 8, .inl s_clean))] H := hP
        have hD : va_D A [(hX, .inr (6, [.ref (xd 0), .int x_tapeLength, .ref hp, .ref hd, .ref hR0, .ref hu, .ref (xd 6), .int x_at, .int x_top, .ref hs, .ref hT, .ref (xd 11), .ref (xd 12), .ref (xd 13), .int x_lyingCount, .ref (xd 15), .int x_fewest, .ref hg, .ref (xd 18), .int x_time])), (sd 5, .inl (cyI, 41, .inl s_ks)), (sd 6, .inl (cyI, 41, .inl s_vs)), (sd 1, .inl (cyI, 8, .inl s_has)), (hs, .inr (5, [.ref (sd 0), .ref (sd 1), .ref (sd 2), .ref (sd 3), .ref (sd 4), .ref (sd 5), .ref (sd 6), .int s_size, .int s_copier, .int s_copyLeft, .int s_tick, .int s_seed, .int s_dropped])), (sd 0, .inl (cyI, 6, .inl s_row)), (sd 2, .inl (cyI, 8, .inl s_clean))] := hD
        exact W.iret (v := r17138) hx hb hr (fun t ht hW => ⟨⟨r17138, (), rfl, trivial, cE.of ht hP hD [0, 4, 5, 3, 6, 1, 2] (by decide) rfl⟩, hS.F ht⟩) hS.2.2 dX6_wrote_120
      have c17137i := i_ne (b := 4) c17137 rfl (by decide)
      refine lv_tableOut (tgt := 121) hx hb dX6_wrote_19 (by omega) (by decide) ?_
      refine lv_iconst (v := (-1)) hx hb dX6_wrote_121 (by decide) ?_
      exact W.iret (v := (-1)) hx hb hr (fun t ht hW => ⟨⟨(-1), (), rfl, trivial, cE.of ht hP hD [0, 4, 5, 6, 1, 2, 3] (by decide) rfl⟩, hS.F ht⟩) hS.2.2 dX6_wrote_122
    · have c17123 := i_nle (a := x1.toInt) (b := r17119.toInt) c17123 rfl rfl
      refine lv_iconst (v := (-1)) hx hb dX6_wrote_16 (by decide) ?_
      exact W.iret (v := (-1)) hx hb hr (fun t ht hW => ⟨⟨(-1), (), rfl, trivial, cE.of ht hP hD [0, 4, 5, 6, 1, 2, 3] (by decide) rfl⟩, hS.F ht⟩) hS.2.2 dX6_wrote_17
def wo_k_X_canGive : List Cond := [.fieldLink RX6 110 "ReplicaChain" "now" "LReplicaChain$State;", .fieldLink RX6 157 "ReplicaChain$State" "size" "I", .methodLink RX6 195 yX5_headHas, .instanceMethod yX5_headHas, .selects RX5 yX5_headHas yX5_headHas, .initialized RX5]
def wq_k_X_canGive : List Cond := .code yX6_canGive cX6_canGive 1 (some .boolean) :: (wo_k_X_canGive ++ (wq_k_St_headHas ++ (wsX50 ++ (wsX60 ++ []))))
theorem gd_k_X_canGive : Gd wq_k_X_canGive := gd_c (gd_a (gd_o (by decide +kernel)) (gd_a gd_k_St_headHas (gd_a gd_u (gd_a gd_u gd_0))))
abbrev wc_k_X_canGive (cyB cyI cyJ cyZ cyO : ClassId) (hX : Nat) (xd : Nat → Nat) (x_tapeLength : Int32) (x_at : Int32) (x_top : Int32) (x_lyingCount : Int32) (x_fewest : Int32) (x_time : Int32) (hs : Nat) (sd : Nat → Nat) (s_row : Nat → Int32) (s_has : Nat → Int32) (s_size : Int32) (s_copier : Int32) (s_copyLeft : Int32) (s_tick : Int32) (s_seed : Int32) (s_dropped : Int32) (hp : Nat) (hd : Nat) (hR0 : Nat) (hu : Nat) (hT : Nat) (hg : Nat) : va_W := [(hX, .inr (6, [.ref (xd 0), .int x_tapeLength, .ref hp, .ref hd, .ref hR0, .ref hu, .ref (xd 6), .int x_at, .int x_top, .ref hs, .ref hT, .ref (xd 11), .ref (xd 12), .ref (xd 13), .int x_lyingCount, .ref (xd 15), .int x_fewest, .ref hg, .ref (xd 18), .int x_time])), (hs, .inr (5, [.ref (sd 0), .ref (sd 1), .ref (sd 2), .ref (sd 3), .ref (sd 4), .ref (sd 5), .ref (sd 6), .int s_size, .int s_copier, .int s_copyLeft, .int s_tick, .int s_seed, .int s_dropped])), (sd 0, .inl (cyI, 6, .inl s_row)), (sd 1, .inl (cyI, 8, .inl s_has))]
set_option maxHeartbeats 4000000 in
set_option maxRecDepth 100000 in
theorem k_X_canGive (l : Launch) (dC : Nat → ClassId) (dI : Nat → Nat → Nat) (cyB cyI cyJ cyZ cyO : ClassId) (hX : Nat) (xd : Nat → Nat) (x_tapeLength : Int32) (x_at : Int32) (x_top : Int32) (x_lyingCount : Int32) (x_fewest : Int32) (x_time : Int32) (hs : Nat) (sd : Nat → Nat) (s_row : Nat → Int32) (s_has : Nat → Int32) (s_size : Int32) (s_copier : Int32) (s_copyLeft : Int32) (s_tick : Int32) (s_seed : Int32) (s_dropped : Int32) (hp : Nat) (hd : Nat) (hR0 : Nat) (hu : Nat) (hT : Nat) (hg : Nat) (sz : Nat) (l_x_tapeLength : 0 ≤ x_tapeLength.toInt) (u_x_tapeLength : x_tapeLength.toInt ≤ 1600) (l_x_at : 0 ≤ x_at.toInt) (u_x_at : x_at.toInt ≤ 40) (l_x_top : 0 ≤ x_top.toInt) (u_x_top : x_top.toInt ≤ 40) (l_x_lyingCount : 0 ≤ x_lyingCount.toInt) (u_x_lyingCount : x_lyingCount.toInt ≤ 6) (l_x_time : 0 ≤ x_time.toInt) (u_x_time : x_time.toInt ≤ 100000) (l_s_size : 0 ≤ s_size.toInt) (u_s_size : s_size.toInt ≤ 6) (l_s_copier : -1 ≤ s_copier.toInt) (u_s_copier : s_copier.toInt ≤ 7) (l_s_seed : 0 ≤ s_seed.toInt) (u_s_seed : s_seed.toInt ≤ 999) (i0_s_row : In2 s_row 0 6 (0) (7)) (i0_s_has : In2 s_has 0 8 (0) (40)) : Met l yX6_canGive wq_k_X_canGive ({ frames := 1, cells := 0, slots := 0, locals := 20 }) (va_Pc [.ref hX] (cB (dC, dI) (kT cyB cyI cyJ cyZ cyO) (wc_k_X_canGive cyB cyI cyJ cyZ cyO hX xd x_tapeLength x_at x_top x_lyingCount x_fewest x_time hs sd s_row s_has s_size s_copier s_copyLeft s_tick s_seed s_dropped hp hd hR0 hu hT hg) sz)) (va_Qi (fun (r : Int32) (u : Unit) => (0 ≤ r.toInt) ∧ (r.toInt ≤ 1)) (fun (u : Unit) t => cE (dC, dI) (va_A (wc_k_X_canGive cyB cyI cyJ cyZ cyO hX xd x_tapeLength x_at x_top x_lyingCount x_fewest x_time hs sd s_row s_has s_size s_copier s_copyLeft s_tick s_seed s_dropped hp hd hR0 hu hT hg) sz) ([(hX, .inr (6, [.ref (xd 0), .int x_tapeLength, .ref hp, .ref hd, .ref hR0, .ref hu, .ref (xd 6), .int x_at, .int x_top, .ref hs, .ref hT, .ref (xd 11), .ref (xd 12), .ref (xd 13), .int x_lyingCount, .ref (xd 15), .int x_fewest, .ref hg, .ref (xd 18), .int x_time])), (hs, .inr (5, [.ref (sd 0), .ref (sd 1), .ref (sd 2), .ref (sd 3), .ref (sd 4), .ref (sd 5), .ref (sd 6), .int s_size, .int s_copier, .int s_copyLeft, .int s_tick, .int s_seed, .int s_dropped])), (sd 0, .inl (cyI, 6, .inl s_row)), (sd 1, .inl (cyI, 8, .inl s_has))]) t.heap) (va_A (wc_k_X_canGive cyB cyI cyJ cyZ cyO hX xd x_tapeLength x_at x_top x_lyingCount x_fewest x_time hs sd s_row s_has s_size s_copier s_copyLeft s_tick s_seed s_dropped hp hd hR0 hu hT hg) sz)) 0 0 (va_A (wc_k_X_canGive cyB cyI cyJ cyZ cyO hX xd x_tapeLength x_at x_top x_lyingCount x_fewest x_time hs sd s_row s_has s_size s_copier s_copyLeft s_tick s_seed s_dropped hp hd hR0 hu hT hg) sz) := by
  refine Met.ofW (cc := cX6_canGive) (maxL := 1) (ret := (some .boolean)) (by decide) rfl ?_
  intro p e s m args below meth c s₁ B hml hv
  obtain ⟨rfl, hsz, hP, hKN, hD0⟩ := hv
  have hx := B.exec
  have hb := B.bytes
  have hr := B.returns
  have hts := atoms_spec (ws := wq_k_X_canGive) B.pre
  have hown : s.vm.findClass RX6 = some m.cls := findClass_of_methodNamed B.named
  have hlocks := B.notSynchronized
  have hK := hKN.1
  have hfix : CallFix p m c cX6_canGive 1 s [.ref hX].toArray wq_k_X_canGive RX6 := ⟨hx, hb, hml, hown, hts⟩
  have hi5 : ∀ w ∈ wsX50, w ∈ wq_k_X_canGive := (sb_c (sb_r sb_l))
  have hi6 : ∀ w ∈ wsX60, w ∈ wq_k_X_canGive := (sb_c (sb_r (sb_r sb_l)))
  subst hsz
  have hD := hD0.self (sz := s.heap.size)
  generalize hAe : va_A (wc_k_X_canGive cyB cyI cyJ cyZ cyO hX xd x_tapeLength x_at x_top x_lyingCount x_fewest x_time hs sd s_row s_has s_size s_copier s_copyLeft s_tick s_seed s_dropped hp hd hR0 hu hT hg) s.heap.size = A at hD ⊢
  have hA : ∀ q : Nat, s.heap.size ≤ q → A q := fun q h => by rw [← hAe]; exact Or.inr h
  have hS : va_S A s.heap s.heap [] := va_S.rf
  have hl := lv_entry ([.ref hX]) (n := 1) (Nat.le_of_ble_eq_true rfl)
  rw [lg_entry_eq]
  generalize (lg_sl ([.ref hX]) ++ List.replicate (1 - (lg_sl ([.ref hX])).length) Slot.unset).toArray = ls at hl ⊢
  have hl : lv_has ls 1 [(0, .ref hX)] := hl
  have ck0 : (0 : Int32).toInt = 0 := by decide
  have ck1 : (1 : Int32).toInt = 1 := by decide
  refine lv_aload_n hx hb dX6_canGive_0 rfl (lv_at hl 0 rfl) ?_
  refine va_get (D := (dC, dI)) (ci := 6) (v := .ref hs) (C := RX6) (T := TX6) (N := 20) hx hb hts hi6 hown hK hP 0 rfl rfl 9 (by decide) (hts _ (ow_m (k := 0) rfl)) (fun _ h9 => h9) rfl dX6_canGive_1 ?_
  refine va_get (D := (dC, dI)) (ci := 5) (v := .int s_size) (C := RX5) (T := TX5) (N := 13) hx hb hts hi5 hown hK hP 1 rfl rfl 7 (by decide) (hts _ (ow_m (k := 1) rfl)) (fun _ h9 => h9) rfl dX6_canGive_4 ?_
  refine lv_if_le (tgt := 26) hx hb dX6_canGive_7 (by decide) (fun c17152 => ?_) (fun c17152 => ?_)
  · have c17152 := i_le (a := s_size.toInt) (b := 0) c17152 rfl (by decide)
    refine lv_iconst (v := 0) hx hb dX6_canGive_26 (by decide) ?_
    have w17153 : 0 ≤ (0 : Int32).toInt := by first | omega | assumption | rfl
    have w17154 : (0 : Int32).toInt ≤ 1 := by first | omega | assumption | rfl
    exact W.zret (v := 0) hx hb hr (by decide) (fun t ht hW => ⟨⟨0, (), rfl, ⟨w17153, w17154⟩, cE.of ht hP hD [0, 1, 2, 3] (by decide) rfl⟩, hS.F ht⟩) hS.2.2 dX6_canGive_27
  · have c17152 := i_nle (a := s_size.toInt) (b := 0) c17152 rfl (by decide)
    refine lv_aload_n hx hb dX6_canGive_10 rfl (lv_at hl 0 rfl) ?_
    refine va_get (D := (dC, dI)) (ci := 6) (v := .ref hs) (C := RX6) (T := TX6) (N := 20) hx hb hts hi6 hown hK hP 0 rfl rfl 9 (by decide) (hts _ (ow_m (k := 0) rfl)) (fun _ h9 => h9) rfl dX6_canGive_11 ?_
    refine gf_i (wr := [(hX, .inr (6, [.ref (xd 0), .int x_tapeLength, .ref hp, .ref hd, .ref hR0, .ref hu, .ref (xd 6), .int x_at, .int x_top, .ref hs, .ref hT, .ref (xd 11), .ref (xd 12), .ref (xd 13), .int x_lyingCount, .ref (xd 15), .int x_fewest, .ref hg, .ref (xd 18), .int x_time]))]) (va_runV (As := []) (rest := []) hfix (k_St_headHas l dC dI cyB cyI cyJ cyZ cyO hs sd s_row s_has s_size s_copier s_copyLeft s_tick s_seed s_dropped _ (by first | omega | assumption) (by first | omega | assumption) (by first | omega | assumption) (by first | omega | assumption) (by first | omega | assumption) (by first | omega | assumption) i0_s_row i0_s_has) (cwV 0 hts (gi_V (ow_m (k := 2) rfl) (ow_m (k := 3) rfl) (ow_m (k := 4) rfl) (ow_m (k := 5) rfl) (sb_c sb_l) gd_k_St_headHas) rfl rfl rfl (by decide +kernel) ⟨Nat.le_of_ble_eq_true rfl, Nat.le_of_ble_eq_true rfl⟩) (g_preV hKN hP hD [1, 2, 3] rfl (by decide) 0 5 rfl rfl) rfl rfl hl.1 rfl (lv_room (Nat.le_of_ble_eq_true rfl)) dX6_canGive_14 ⟨Nat.le_of_ble_eq_true rfl, Nat.le_of_ble_eq_true rfl⟩) hP hD hS hA [1, 2, 3] [0] rfl rfl (by decide) (by decide) (fun r17155 u17156 H locs qu17156 hP hD hS => ?_)
    obtain ⟨b17157, b17158⟩ := qu17156
    have hP : va_P (dC, dI) vwCl [(hX, .inr (6, [.ref (xd 0), .int x_tapeLength, .ref hp, .ref hd, .ref hR0, .ref hu, .ref (xd 6), .int x_at, .int x_top, .ref hs, .ref hT, .ref (xd 11), .ref (xd 12), .ref (xd 13), .int x_lyingCount, .ref (xd 15), .int x_fewest, .ref hg, .ref (xd 18), .int x_time])), (hs, .inr (5, [.ref (sd 0), .ref (sd 1), .ref (sd 2), .ref (sd 3), .ref (sd 4), .ref (sd 5), .ref (sd 6), .int s_size, .int s_copier, .int s_copyLeft, .int s_tick, .int s_seed, .int s_dropped])), (sd 0, .inl (cyI, 6, .inl s_row)), (sd 1, .inl (cyI, 8, .inl s_has))] H := hP
    have hD : va_D A [(hX, .inr (6, [.ref (xd 0), .int x_tapeLength, .ref hp, .ref hd, .ref hR0, .ref hu, .ref (xd 6), .int x_at, .int x_top, .ref hs, .ref hT, .ref (xd 11), .ref (xd 12), .ref (xd 13), .int x_lyingCount, .ref (xd 15), .int x_fewest, .ref hg, .ref (xd 18), .int x_time])), (hs, .inr (5, [.ref (sd 0), .ref (sd 1), .ref (sd 2), .ref (sd 3), .ref (sd 4), .ref (sd 5), .ref (sd 6), .int s_size, .int s_copier, .int s_copyLeft, .int s_tick, .int s_seed, .int s_dropped])), (sd 0, .inl (cyI, 6, .inl s_row)), (sd 1, .inl (cyI, 8, .inl s_has))] := hD
    refine lv_bipush (v := 40) hx hb dX6_canGive_17 (by decide) ?_
    refine lv_icmp_ge (tgt := 26) hx hb dX6_canGive_19 (by decide) (fun c17159 => ?_) (fun c17159 => ?_)
    · have c17159 := i_le (a := 40) (b := r17155.toInt) c17159 (by decide) rfl
      refine lv_iconst (v := 0) hx hb dX6_canGive_26 (by decide) ?_
      have w17160 : 0 ≤ (0 : Int32).toInt := by first | omega | assumption | rfl
      have w17161 : (0 : Int32).toInt ≤ 1 := by first | omega | assumption | rfl
      exact W.zret (v := 0) hx hb hr (by decide) (fun t ht hW => ⟨⟨0, (), rfl, ⟨w17160, w17161⟩, cE.of ht hP hD [0, 1, 2, 3] (by decide) rfl⟩, hS.F ht⟩) hS.2.2 dX6_canGive_27
    · have c17159 := i_nle (a := 40) (b := r17155.toInt) c17159 (by decide) rfl
      refine lv_iconst (v := 1) hx hb dX6_canGive_22 (by decide) ?_
      refine lv_goto (tgt := 27) hx hb dX6_canGive_23 (by decide) ?_
      have w17162 : 0 ≤ (1 : Int32).toInt := by first | omega | assumption | rfl
      have w17163 : (1 : Int32).toInt ≤ 1 := by first | omega | assumption | rfl
      exact W.zret (v := 1) hx hb hr (by decide) (fun t ht hW => ⟨⟨1, (), rfl, ⟨w17162, w17163⟩, cE.of ht hP hD [0, 1, 2, 3] (by decide) rfl⟩, hS.F ht⟩) hS.2.2 dX6_canGive_27
def wo_k_X_read : List Cond := [.methodLink RX6 239 yX6_isMember, .instanceMethod yX6_isMember, .selects RX6 yX6_isMember yX6_isMember, .initialized RX6, .methodLink RX6 215 yX6_isKey, .instanceMethod yX6_isKey, .selects RX6 yX6_isKey yX6_isKey, .fieldLink RX6 110 "ReplicaChain" "now" "LReplicaChain$State;", .methodLink RX6 252 yX5_dirtyOf, .instanceMethod yX5_dirtyOf, .selects RX5 yX5_dirtyOf yX5_dirtyOf, .initialized RX5, .fieldLink RX6 173 "ReplicaChain$State" "clean" "[I", .methodLink RX6 255 yX5_valueUpTo, .instanceMethod yX5_valueUpTo, .selects RX5 yX5_valueUpTo yX5_valueUpTo, .fieldLink RX6 160 "ReplicaChain$State" "row" "[I", .fieldLink RX6 157 "ReplicaChain$State" "size" "I"]
def wq_k_X_read : List Cond := .code yX6_read cX6_read 4 (some .int) :: (wo_k_X_read ++ (wq_k_X_isMember ++ (wq_k_X_isKey ++ (wq_k_St_dirtyOf ++ (wq_k_St_valueUpTo ++ (wsX50 ++ (wsX60 ++ [])))))))
theorem gd_k_X_read : Gd wq_k_X_read := gd_c (gd_a (gd_o (by decide +kernel)) (gd_a gd_k_X_isMember (gd_a gd_k_X_isKey (gd_a gd_k_St_dirtyOf (gd_a gd_k_St_valueUpTo (gd_a gd_u (gd_a gd_u gd_0)))))))
abbrev wc_k_X_read (cyB cyI cyJ cyZ cyO : ClassId) (hX : Nat) (xd : Nat → Nat) (x_tapeLength : Int32) (x_at : Int32) (x_top : Int32) (x_lyingCount : Int32) (x_fewest : Int32) (x_time : Int32) (hp : Nat) (pd : Nat → Nat) (p_mC : Int32) (p_nC : Int32) (p_kC : Int32) (p_units : Int32) (p_copy : Int32) (p_loss : Int32) (p_draw : Int32) (hs : Nat) (sd : Nat → Nat) (s_row : Nat → Int32) (s_has : Nat → Int32) (s_clean : Nat → Int32) (s_ks : Nat → Int32) (s_vs : Nat → Int32) (s_size : Int32) (s_copier : Int32) (s_copyLeft : Int32) (s_tick : Int32) (s_seed : Int32) (s_dropped : Int32) (x1 : Int32) (x2 : Int32) (hd : Nat) (hR0 : Nat) (hu : Nat) (hT : Nat) (hg : Nat) (hf : Nat) : va_W := [(hX, .inr (6, [.ref (xd 0), .int x_tapeLength, .ref hp, .ref hd, .ref hR0, .ref hu, .ref (xd 6), .int x_at, .int x_top, .ref hs, .ref hT, .ref (xd 11), .ref (xd 12), .ref (xd 13), .int x_lyingCount, .ref (xd 15), .int x_fewest, .ref hg, .ref (xd 18), .int x_time])), (hp, .inr (1, [.ref (pd 0), .ref (pd 1), .ref (pd 2), .ref hf, .int p_mC, .int p_nC, .int p_kC, .int p_units, .int p_copy, .int p_loss, .int p_draw])), (hs, .inr (5, [.ref (sd 0), .ref (sd 1), .ref (sd 2), .ref (sd 3), .ref (sd 4), .ref (sd 5), .ref (sd 6), .int s_size, .int s_copier, .int s_copyLeft, .int s_tick, .int s_seed, .int s_dropped])), (sd 0, .inl (cyI, 6, .inl s_row)), (sd 1, .inl (cyI, 8, .inl s_has)), (sd 2, .inl (cyI, 8, .inl s_clean)), (sd 5, .inl (cyI, 41, .inl s_ks)), (sd 6, .inl (cyI, 41, .inl s_vs))]
set_option maxHeartbeats 4000000 in
set_option maxRecDepth 100000 in
theorem k_X_read (l : Launch) (dC : Nat → ClassId) (dI : Nat → Nat → Nat) (cyB cyI cyJ cyZ cyO : ClassId) (hX : Nat) (xd : Nat → Nat) (x_tapeLength : Int32) (x_at : Int32) (x_top : Int32) (x_lyingCount : Int32) (x_fewest : Int32) (x_time : Int32) (hp : Nat) (pd : Nat → Nat) (p_mC : Int32) (p_nC : Int32) (p_kC : Int32) (p_units : Int32) (p_copy : Int32) (p_loss : Int32) (p_draw : Int32) (hs : Nat) (sd : Nat → Nat) (s_row : Nat → Int32) (s_has : Nat → Int32) (s_clean : Nat → Int32) (s_ks : Nat → Int32) (s_vs : Nat → Int32) (s_size : Int32) (s_copier : Int32) (s_copyLeft : Int32) (s_tick : Int32) (s_seed : Int32) (s_dropped : Int32) (x1 : Int32) (x2 : Int32) (hd : Nat) (hR0 : Nat) (hu : Nat) (hT : Nat) (hg : Nat) (hf : Nat) (sz : Nat) (l_x_tapeLength : 0 ≤ x_tapeLength.toInt) (u_x_tapeLength : x_tapeLength.toInt ≤ 1600) (l_x_at : 0 ≤ x_at.toInt) (u_x_at : x_at.toInt ≤ 40) (l_x_top : 0 ≤ x_top.toInt) (u_x_top : x_top.toInt ≤ 40) (l_x_lyingCount : 0 ≤ x_lyingCount.toInt) (u_x_lyingCount : x_lyingCount.toInt ≤ 6) (l_x_time : 0 ≤ x_time.toInt) (u_x_time : x_time.toInt ≤ 100000) (l_p_mC : 0 ≤ p_mC.toInt) (u_p_mC : p_mC.toInt ≤ 6) (l_p_nC : 0 ≤ p_nC.toInt) (u_p_nC : p_nC.toInt ≤ 8) (l_p_kC : 0 ≤ p_kC.toInt) (u_p_kC : p_kC.toInt ≤ 4) (l_p_draw : 0 ≤ p_draw.toInt) (u_p_draw : p_draw.toInt ≤ 999) (l_s_size : 0 ≤ s_size.toInt) (u_s_size : s_size.toInt ≤ 6) (l_s_copier : -1 ≤ s_copier.toInt) (u_s_copier : s_copier.toInt ≤ 7) (l_s_seed : 0 ≤ s_seed.toInt) (u_s_seed : s_seed.toInt ≤ 999) (i0_s_row : In2 s_row 0 6 (0) (7)) (i0_s_has : In2 s_has 0 8 (0) (40)) (i0_s_clean : In2 s_clean 0 8 (0) (40)) : Met l yX6_read wq_k_X_read ({ frames := 3, cells := 0, slots := 0, locals := 70 }) (va_Pc [.ref hX, .int x1, .int x2] (cB (dC, dI) (kT cyB cyI cyJ cyZ cyO) (wc_k_X_read cyB cyI cyJ cyZ cyO hX xd x_tapeLength x_at x_top x_lyingCount x_fewest x_time hp pd p_mC p_nC p_kC p_units p_copy p_loss p_draw hs sd s_row s_has s_clean s_ks s_vs s_size s_copier s_copyLeft s_tick s_seed s_dropped x1 x2 hd hR0 hu hT hg hf) sz)) (va_Qi (fun (r : Int32) (u : Unit) => True) (fun (u : Unit) t => cE (dC, dI) (va_A (wc_k_X_read cyB cyI cyJ cyZ cyO hX xd x_tapeLength x_at x_top x_lyingCount x_fewest x_time hp pd p_mC p_nC p_kC p_units p_copy p_loss p_draw hs sd s_row s_has s_clean s_ks s_vs s_size s_copier s_copyLeft s_tick s_seed s_dropped x1 x2 hd hR0 hu hT hg hf) sz) ([(hX, .inr (6, [.ref (xd 0), .int x_tapeLength, .ref hp, .ref hd, .ref hR0, .ref hu, .ref (xd 6), .int x_at, .int x_top, .ref hs, .ref hT, .ref (xd 11), .ref (xd 12), .ref (xd 13), .int x_lyingCount, .ref (xd 15), .int x_fewest, .ref hg, .ref (xd 18), .int x_time])), (hp, .inr (1, [.ref (pd 0), .ref (pd 1), .ref (pd 2), .ref hf, .int p_mC, .int p_nC, .int p_kC, .int p_units, .int p_copy, .int p_loss, .int p_draw])), (hs, .inr (5, [.ref (sd 0), .ref (sd 1), .ref (sd 2), .ref (sd 3), .ref (sd 4), .ref (sd 5), .ref (sd 6), .int s_size, .int s_copier, .int s_copyLeft, .int s_tick, .int s_seed, .int s_dropped])), (sd 0, .inl (cyI, 6, .inl s_row)), (sd 1, .inl (cyI, 8, .inl s_has)), (sd 2, .inl (cyI, 8, .inl s_clean)), (sd 5, .inl (cyI, 41, .inl s_ks)), (sd 6, .inl (cyI, 41, .inl s_vs))]) t.heap) (va_A (wc_k_X_read cyB cyI cyJ cyZ cyO hX xd x_tapeLength x_at x_top x_lyingCount x_fewest x_time hp pd p_mC p_nC p_kC p_units p_copy p_loss p_draw hs sd s_row s_has s_clean s_ks s_vs s_size s_copier s_copyLeft s_tick s_seed s_dropped x1 x2 hd hR0 hu hT hg hf) sz)) 0 0 (va_A (wc_k_X_read cyB cyI cyJ cyZ cyO hX xd x_tapeLength x_at x_top x_lyingCount x_fewest x_time hp pd p_mC p_nC p_kC p_units p_copy p_loss p_draw hs sd s_row s_has s_clean s_ks s_vs s_size s_copier s_copyLeft s_tick s_seed s_dropped x1 x2 hd hR0 hu hT hg hf) sz) := by
  refine Met.ofW (cc := cX6_read) (maxL := 4) (ret := (some .int)) (by decide) rfl ?_
  intro p e s m args below meth c s₁ B hml hv
  obtain ⟨rfl, hsz, hP, hKN, hD0⟩ := hv
  have hx := B.exec
  have hb := B.bytes
  have hr := B.returns
  have hts := atoms_spec (ws := wq_k_X_read) B.pre
  have hown : s.vm.findClass RX6 = some m.cls := findClass_of_methodNamed B.named
  have hlocks := B.notSynchronized
  have hK := hKN.1
  have hfix : CallFix p m c cX6_read 4 s [.ref hX, .int x1, .int x2].toArray wq_k_X_read RX6 := ⟨hx, hb, hml, hown, hts⟩
  have hi5 : ∀ w ∈ wsX50, w ∈ wq_k_X_read := (sb_c (sb_r (sb_r (sb_r (sb_r sb_l)))))
  have hi6 : ∀ w ∈ wsX60, w ∈ wq_k_X_read := (sb_c (sb_r (sb_r (sb_r (sb_r (sb_r sb_l))))))
  subst hsz
  have hD := hD0.self (sz := s.heap.size)
  generalize hAe : va_A (wc_k_X_read cyB cyI cyJ cyZ cyO hX xd x_tapeLength x_at x_top x_lyingCount x_fewest x_time hp pd p_mC p_nC p_kC p_units p_copy p_loss p_draw hs sd s_row s_has s_clean s_ks s_vs s_size s_copier s_copyLeft s_tick s_seed s_dropped x1 x2 hd hR0 hu hT hg hf) s.heap.size = A at hD ⊢
  have hA : ∀ q : Nat, s.heap.size ≤ q → A q := fun q h => by rw [← hAe]; exact Or.inr h
  have hS : va_S A s.heap s.heap [] := va_S.rf
  have hl := lv_entry ([.ref hX, .int x1, .int x2]) (n := 4) (Nat.le_of_ble_eq_true rfl)
  rw [lg_entry_eq]
  generalize (lg_sl ([.ref hX, .int x1, .int x2]) ++ List.replicate (4 - (lg_sl ([.ref hX, .int x1, .int x2])).length) Slot.unset).toArray = ls at hl ⊢
  have hl : lv_has ls 4 [(0, .ref hX), (1, .int x1), (2, .int x2)] := hl
  have ck0 : (0 : Int32).toInt = 0 := by decide
  have ck1 : (1 : Int32).toInt = 1 := by decide
  refine lv_aload_n hx hb dX6_read_0 rfl (lv_at hl 0 rfl) ?_
  refine lv_iload_n hx hb dX6_read_1 rfl (lv_at hl 1 rfl) ?_
  refine gf_i (wr := [(sd 1, .inl (cyI, 8, .inl s_has)), (sd 2, .inl (cyI, 8, .inl s_clean)), (sd 5, .inl (cyI, 41, .inl s_ks)), (sd 6, .inl (cyI, 41, .inl s_vs))]) (va_runV (As := [.int x1]) (rest := []) hfix (k_X_isMember l dC dI cyB cyI cyJ cyZ cyO hX xd x_tapeLength x_at x_top x_lyingCount x_fewest x_time hp pd p_mC p_nC p_kC p_units p_copy p_loss p_draw hs sd s_row s_size s_copier s_copyLeft s_tick s_seed s_dropped x1 hd hR0 hu hT hg hf _ (by first | omega | assumption) (by first | omega | assumption) (by first | omega | assumption) (by first | omega | assumption) (by first | omega | assumption) (by first | omega | assumption) (by first | omega | assumption) (by first | omega | assumption) (by first | omega | assumption) (by first | omega | assumption) (by first | omega | assumption) (by first | omega | assumption) (by first | omega | assumption) (by first | omega | assumption) (by first | omega | assumption) (by first | omega | assumption) (by first | omega | assumption) (by first | omega | assumption) (by first | omega | assumption) (by first | omega | assumption) (by first | omega | assumption) (by first | omega | assumption) (by first | omega | assumption) (by first | omega | assumption) i0_s_row) (cwV 1 hts (gi_V (ow_m (k := 0) rfl) (ow_m (k := 1) rfl) (ow_m (k := 2) rfl) (ow_m (k := 3) rfl) (sb_c sb_l) gd_k_X_isMember) rfl rfl rfl (by decide +kernel) ⟨Nat.le_of_ble_eq_true rfl, Nat.le_of_ble_eq_true rfl⟩) (g_preV hKN hP hD [0, 1, 2, 3] rfl (by decide) 0 6 rfl rfl) rfl rfl hl.1 rfl (lv_room (Nat.le_of_ble_eq_true rfl)) dX6_read_2 ⟨Nat.le_of_ble_eq_true rfl, Nat.le_of_ble_eq_true rfl⟩) hP hD hS hA [0, 1, 2, 3] [4, 5, 6, 7] rfl rfl (by decide) (by decide) (fun r17220 u17221 H locs qu17221 hP hD hS => ?_)
  have b17222 := qu17221
  have hP : va_P (dC, dI) vwCl [(sd 1, .inl (cyI, 8, .inl s_has)), (sd 2, .inl (cyI, 8, .inl s_clean)), (sd 5, .inl (cyI, 41, .inl s_ks)), (sd 6, .inl (cyI, 41, .inl s_vs)), (hX, .inr (6, [.ref (xd 0), .int x_tapeLength, .ref hp, .ref hd, .ref hR0, .ref hu, .ref (xd 6), .int x_at, .int x_top, .ref hs, .ref hT, .ref (xd 11), .ref (xd 12), .ref (xd 13), .int x_lyingCount, .ref (xd 15), .int x_fewest, .ref hg, .ref (xd 18), .int x_time])), (hp, .inr (1, [.ref (pd 0), .ref (pd 1), .ref (pd 2), .ref hf, .int p_mC, .int p_nC, .int p_kC, .int p_units, .int p_copy, .int p_loss, .int p_draw])), (hs, .inr (5, [.ref (sd 0), .ref (sd 1), .ref (sd 2), .ref (sd 3), .ref (sd 4), .ref (sd 5), .ref (sd 6), .int s_size, .int s_copier, .int s_copyLeft, .int s_tick, .int s_seed, .int s_dropped])), (sd 0, .inl (cyI, 6, .inl s_row))] H := hP
  have hD : va_D A [(sd 1, .inl (cyI, 8, .inl s_has)), (sd 2, .inl (cyI, 8, .inl s_clean)), (sd 5, .inl (cyI, 41, .inl s_ks)), (sd 6, .inl (cyI, 41, .inl s_vs)), (hX, .inr (6, [.ref (xd 0), .int x_tapeLength, .ref hp, .ref hd, .ref hR0, .ref hu, .ref (xd 6), .int x_at, .int x_top, .ref hs, .ref hT, .ref (xd 11), .ref (xd 12), .ref (xd 13), .int x_lyingCount, .ref (xd 15), .int x_fewest, .ref hg, .ref (xd 18), .int x_time])), (hp, .inr (1, [.ref (pd 0), .ref (pd 1), .ref (pd 2), .ref hf, .int p_mC, .int p_nC, .int p_kC, .int p_units, .int p_copy, .int p_loss, .int p_draw])), (hs, .inr (5, [.ref (sd 0), .ref (sd 1), .ref (sd 2), .ref (sd 3), .ref (sd 4), .ref (sd 5), .ref (sd 6), .int s_size, .int s_copier, .int s_copyLeft, .int s_tick, .int s_seed, .int s_dropped])), (sd 0, .inl (cyI, 6, .inl s_row))] := hD
  rcases b17222 with ⟨rfl, b17223, b17224, b17225, b17226⟩ | rfl
  · skip
    refine lv_if_eq (tgt := 16) hx hb dX6_read_5 (by decide) (fun c17227 => absurd c17227 (by decide)) (fun _ => ?_)
    refine lv_aload_n hx hb dX6_read_8 rfl (lv_at hl 0 rfl) ?_
    refine lv_iload_n hx hb dX6_read_9 rfl (lv_at hl 2 rfl) ?_
    refine gf_i (wr := [(sd 1, .inl (cyI, 8, .inl s_has)), (sd 2, .inl (cyI, 8, .inl s_clean)), (sd 5, .inl (cyI, 41, .inl s_ks)), (sd 6, .inl (cyI, 41, .inl s_vs)), (hs, .inr (5, [.ref (sd 0), .ref (sd 1), .ref (sd 2), .ref (sd 3), .ref (sd 4), .ref (sd 5), .ref (sd 6), .int s_size, .int s_copier, .int s_copyLeft, .int s_tick, .int s_seed, .int s_dropped])), (sd 0, .inl (cyI, 6, .inl s_row))]) (va_runV (As := [.int x2]) (rest := []) hfix (k_X_isKey l dC dI cyB cyI cyJ cyZ cyO hX xd x_tapeLength x_at x_top x_lyingCount x_fewest x_time hp pd p_mC p_nC p_kC p_units p_copy p_loss p_draw x2 hd hR0 hu hs hT hg hf _ (by first | omega | assumption) (by first | omega | assumption) (by first | omega | assumption) (by first | omega | assumption) (by first | omega | assumption) (by first | omega | assumption) (by first | omega | assumption) (by first | omega | assumption) (by first | omega | assumption) (by first | omega | assumption) (by first | omega | assumption) (by first | omega | assumption) (by first | omega | assumption) (by first | omega | assumption) (by first | omega | assumption) (by first | omega | assumption) (by first | omega | assumption) (by first | omega | assumption)) (cwV 1 hts (gi_V (ow_m (k := 4) rfl) (ow_m (k := 5) rfl) (ow_m (k := 6) rfl) (ow_m (k := 3) rfl) (sb_c (sb_r sb_l)) gd_k_X_isKey) rfl rfl rfl (by decide +kernel) ⟨Nat.le_of_ble_eq_true rfl, Nat.le_of_ble_eq_true rfl⟩) (g_preV hKN hP hD [4, 5] rfl (by decide) 0 6 rfl rfl) rfl rfl hl.1 rfl (lv_room (Nat.le_of_ble_eq_true rfl)) dX6_read_10 ⟨Nat.le_of_ble_eq_true rfl, Nat.le_of_ble_eq_true rfl⟩) hP hD hS hA [4, 5] [0, 1, 2, 3, 6, 7] rfl rfl (by decide) (by decide) (fun r17228 u17229 H locs qu17229 hP hD hS => ?_)
    have b17230 := qu17229
    have hP : va_P (dC, dI) vwCl [(sd 1, .inl (cyI, 8, .inl s_has)), (sd 2, .inl (cyI, 8, .inl s_clean)), (sd 5, .inl (cyI, 41, .inl s_ks)), (sd 6, .inl (cyI, 41, .inl s_vs)), (hs, .inr (5, [.ref (sd 0), .ref (sd 1), .ref (sd 2), .ref (sd 3), .ref (sd 4), .ref (sd 5), .ref (sd 6), .int s_size, .int s_copier, .int s_copyLeft, .int s_tick, .int s_seed, .int s_dropped])), (sd 0, .inl (cyI, 6, .inl s_row)), (hX, .inr (6, [.ref (xd 0), .int x_tapeLength, .ref hp, .ref hd, .ref hR0, .ref hu, .ref (xd 6), .int x_at, .int x_top, .ref hs, .ref hT, .ref (xd 11), .ref (xd 12), .ref (xd 13), .int x_lyingCount, .ref (xd 15), .int x_fewest, .ref hg, .ref (xd 18), .int x_time])), (hp, .inr (1, [.ref (pd 0), .ref (pd 1), .ref (pd 2), .ref hf, .int p_mC, .int p_nC, .int p_kC, .int p_units, .int p_copy, .int p_loss, .int p_draw]))] H := hP
    have hD : va_D A [(sd 1, .inl (cyI, 8, .inl s_has)), (sd 2, .inl (cyI, 8, .inl s_clean)), (sd 5, .inl (cyI, 41, .inl s_ks)), (sd 6, .inl (cyI, 41, .inl s_vs)), (hs, .inr (5, [.ref (sd 0), .ref (sd 1), .ref (sd 2), .ref (sd 3), .ref (sd 4), .ref (sd 5), .ref (sd 6), .int s_size, .int s_copier, .int s_copyLeft, .int s_tick, .int s_seed, .int s_dropped])), (sd 0, .inl (cyI, 6, .inl s_row)), (hX, .inr (6, [.ref (xd 0), .int x_tapeLength, .ref hp, .ref hd, .ref hR0, .ref hu, .ref (xd 6), .int x_at, .int x_top, .ref hs, .ref hT, .ref (xd 11), .ref (xd 12), .ref (xd 13), .int x_lyingCount, .ref (xd 15), .int x_fewest, .ref hg, .ref (xd 18), .int x_time])), (hp, .inr (1, [.ref (pd 0), .ref (pd 1), .ref (pd 2), .ref hf, .int p_mC, .int p_nC, .int p_kC, .int p_units, .int p_copy, .int p_loss, .int p_draw]))] := hD
    rcases b17230 with ⟨rfl, b17231, b17232, b17233⟩ | rfl
    · skip
      refine lv_if_ne (tgt := 19) hx hb dX6_read_13 (by decide) (fun _ => ?_) (fun c17234 => absurd c17234 (by decide))
      refine lv_aload_n hx hb dX6_read_19 rfl (lv_at hl 0 rfl) ?_
      refine va_get (D := (dC, dI)) (ci := 6) (v := .ref hs) (C := RX6) (T := TX6) (N := 20) hx hb hts hi6 hown hK hP 6 rfl rfl 9 (by decide) (hts _ (ow_m (k := 7) rfl)) (fun _ h9 => h9) rfl dX6_read_20 ?_
      refine lv_iload_n hx hb dX6_read_23 rfl (lv_at hl 1 rfl) ?_
      refine lv_iload_n hx hb dX6_read_24 rfl (lv_at hl 2 rfl) ?_
      refine gf_i (wr := [(sd 6, .inl (cyI, 41, .inl s_vs)), (sd 0, .inl (cyI, 6, .inl s_row)), (hX, .inr (6, [.ref (xd 0), .int x_tapeLength, .ref hp, .ref hd, .ref hR0, .ref hu, .ref (xd 6), .int x_at, .int x_top, .ref hs, .ref hT, .ref (xd 11), .ref (xd 12), .ref (xd 13), .int x_lyingCount, .ref (xd 15), .int x_fewest, .ref hg, .ref (xd 18), .int x_time])), (hp, .inr (1, [.ref (pd 0), .ref (pd 1), .ref (pd 2), .ref hf, .int p_mC, .int p_nC, .int p_kC, .int p_units, .int p_copy, .int p_loss, .int p_draw]))]) (va_runV (As := [.int x1, .int x2]) (rest := []) hfix (k_St_dirtyOf l dC dI cyB cyI cyJ cyZ cyO hs sd s_has s_clean s_ks s_size s_copier s_copyLeft s_tick s_seed s_dropped x1 x2 _ (by first | omega | assumption) (by first | omega | assumption) (by first | omega | assumption) (by first | omega | assumption) (by first | omega | assumption) (by first | omega | assumption) i0_s_has i0_s_clean (by first | omega | assumption) (by first | omega | assumption)) (cwV 2 hts (gi_V (ow_m (k := 8) rfl) (ow_m (k := 9) rfl) (ow_m (k := 10) rfl) (ow_m (k := 11) rfl) (sb_c (sb_r (sb_r sb_l))) gd_k_St_dirtyOf) rfl rfl rfl (by decide +kernel) ⟨Nat.le_of_ble_eq_true rfl, Nat.le_of_ble_eq_true rfl⟩) (g_preV hKN hP hD [4, 0, 1, 2] rfl (by decide) 0 5 rfl rfl) rfl rfl hl.1 rfl (lv_room (Nat.le_of_ble_eq_true rfl)) dX6_read_25 ⟨Nat.le_of_ble_eq_true rfl, Nat.le_of_ble_eq_true rfl⟩) hP hD hS hA [4, 0, 1, 2] [3, 5, 6, 7] rfl rfl (by decide) (by decide) (fun r17235 u17236 H locs qu17236 hP hD hS => ?_)
      have hP : va_P (dC, dI) vwCl [(sd 6, .inl (cyI, 41, .inl s_vs)), (sd 0, .inl (cyI, 6, .inl s_row)), (hX, .inr (6, [.ref (xd 0), .int x_tapeLength, .ref hp, .ref hd, .ref hR0, .ref hu, .ref (xd 6), .int x_at, .int x_top, .ref hs, .ref hT, .ref (xd 11), .ref (xd 12), .ref (xd 13), .int x_lyingCount, .ref (xd 15), .int x_fewest, .ref hg, .ref (xd 18), .int x_time])), (hp, .inr (1, [.ref (pd 0), .ref (pd 1), .ref (pd 2), .ref hf, .int p_mC, .int p_nC, .int p_kC, .int p_units, .int p_copy, .int p_loss, .int p_draw])), (hs, .inr (5, [.ref (sd 0), .ref (sd 1), .ref (sd 2), .ref (sd 3), .ref (sd 4), .ref (sd 5), .ref (sd 6), .int s_size, .int s_copier, .int s_copyLeft, .int s_tick, .int s_seed, .int s_dropped])), (sd 1, .inl (cyI, 8, .inl s_has)), (sd 2, .inl (cyI, 8, .inl s_clean)), (sd 5, .inl (cyI, 41, .inl s_ks))] H := hP
      have hD : va_D A [(sd 6, .inl (cyI, 41, .inl s_vs)), (sd 0, .inl (cyI, 6, .inl s_row)), (hX, .inr (6, [.ref (xd 0), .int x_tapeLength, .ref hp, .ref hd, .ref hR0, .ref hu, .ref (xd 6), .int x_at, .int x_top, .ref hs, .ref hT, .ref (xd 11), .ref (xd 12), .ref (xd 13), .int x_lyingCount, .ref (xd 15), .int x_fewest, .ref hg, .ref (xd 18), .int x_time])), (hp, .inr (1, [.ref (pd 0), .ref (pd 1), .ref (pd 2), .ref hf, .int p_mC, .int p_nC, .int p_kC, .int p_units, .int p_copy, .int p_loss, .int p_draw])), (hs, .inr (5, [.ref (sd 0), .ref (sd 1), .ref (sd 2), .ref (sd 3), .ref (sd 4), .ref (sd 5), .ref (sd 6), .int s_size, .int s_copier, .int s_copyLeft, .int s_tick, .int s_seed, .int s_dropped])), (sd 1, .inl (cyI, 8, .inl s_has)), (sd 2, .inl (cyI, 8, .inl s_clean)), (sd 5, .inl (cyI, 41, .inl s_ks))] := hD
      refine lv_if_le (tgt := 51) hx hb dX6_read_28 (by decide) (fun c17237 => ?_) (fun c17237 => ?_)
      · have c17237 := i_le (a := r17235.toInt) (b := 0) c17237 rfl (by decide)
        refine lv_iload_n hx hb dX6_read_51 rfl (lv_at hl 1 rfl) ?_
        refine lv_istore_n (lv' := [(3, .int x1), (0, .ref hX), (1, .int x1), (2, .int x2)]) hx hb dX6_read_52 rfl hl (by decide) rfl (fun ls hl => ?_)
        refine lv_aload_n hx hb dX6_read_53 rfl (lv_at hl 1 rfl) ?_
        refine va_get (D := (dC, dI)) (ci := 6) (v := .ref hs) (C := RX6) (T := TX6) (N := 20) hx hb hts hi6 hown hK hP 2 rfl rfl 9 (by decide) (hts _ (ow_m (k := 7) rfl)) (fun _ h9 => h9) rfl dX6_read_54 ?_
        refine lv_iload_n hx hb dX6_read_57 rfl (lv_at hl 3 rfl) ?_
        refine lv_aload_n hx hb dX6_read_58 rfl (lv_at hl 1 rfl) ?_
        refine va_get (D := (dC, dI)) (ci := 6) (v := .ref hs) (C := RX6) (T := TX6) (N := 20) hx hb hts hi6 hown hK hP 2 rfl rfl 9 (by decide) (hts _ (ow_m (k := 7) rfl)) (fun _ h9 => h9) rfl dX6_read_59 ?_
        refine va_get (D := (dC, dI)) (ci := 5) (v := .ref (sd 2)) (C := RX5) (T := TX5) (N := 13) hx hb hts hi5 hown hK hP 4 rfl rfl 2 (by decide) (hts _ (ow_m (k := 12) rfl)) (fun _ h9 => h9) rfl dX6_read_62 ?_
        refine lv_iload_n hx hb dX6_read_65 rfl (lv_at hl 0 rfl) ?_
        refine va_iald hx hb hK hP 6 1 rfl rfl (vp_i rfl (by omega) (by omega)) dX6_read_66 ?_
        refine lv_topi (fun z17238 ez17238 => ?_)
        have tz17238 := i0_s_clean.at (x := x1.toInt) ez17238 rfl (by omega) (by omega)
        refine gf_i (wr := [(sd 0, .inl (cyI, 6, .inl s_row)), (hX, .inr (6, [.ref (xd 0), .int x_tapeLength, .ref hp, .ref hd, .ref hR0, .ref hu, .ref (xd 6), .int x_at, .int x_top, .ref hs, .ref hT, .ref (xd 11), .ref (xd 12), .ref (xd 13), .int x_lyingCount, .ref (xd 15), .int x_fewest, .ref hg, .ref (xd 18), .int x_time])), (hp, .inr (1, [.ref (pd 0), .ref (pd 1), .ref (pd 2), .ref hf, .int p_mC, .int p_nC, .int p_kC, .int p_units, .int p_copy, .int p_loss, .int p_draw])), (sd 1, .inl (cyI, 8, .inl s_has)), (sd 2, .inl (cyI, 8, .inl s_clean))]) (va_runV (As := [.int x2, .int z17238]) (rest := []) hfix (k_St_valueUpTo l dC dI cyB cyI cyJ cyZ cyO hs sd s_ks s_vs s_size s_copier s_copyLeft s_tick s_seed s_dropped x2 z17238 _ (by first | omega | assumption) (by first | omega | assumption) (by first | omega | assumption) (by first | omega | assumption) (by first | omega | assumption) (by first | omega | assumption)) (cwV 2 hts (gi_V (ow_m (k := 13) rfl) (ow_m (k := 14) rfl) (ow_m (k := 15) rfl) (ow_m (k := 11) rfl) (sb_c (sb_r (sb_r (sb_r sb_l)))) gd_k_St_valueUpTo) rfl rfl rfl (by decide +kernel) ⟨Nat.le_of_ble_eq_true rfl, Nat.le_of_ble_eq_true rfl⟩) (g_preV hKN hP hD [4, 7, 0] rfl (by decide) 0 5 rfl rfl) rfl rfl hl.1 rfl (lv_room (Nat.le_of_ble_eq_true rfl)) dX6_read_67 ⟨Nat.le_of_ble_eq_true rfl, Nat.le_of_ble_eq_true rfl⟩) hP hD hS hA [4, 7, 0] [1, 2, 3, 5, 6] rfl rfl (by decide) (by decide) (fun r17239 u17240 H locs qu17240 hP hD hS => ?_)
        have hP : va_P (dC, dI) vwCl [(sd 0, .inl (cyI, 6, .inl s_row)), (hX, .inr (6, [.ref (xd 0), .int x_tapeLength, .ref hp, .ref hd, .ref hR0, .ref hu, .ref (xd 6), .int x_at, .int x_top, .ref hs, .ref hT, .ref (xd 11), .ref (xd 12), .ref (xd 13), .int x_lyingCount, .ref (xd 15), .int x_fewest, .ref hg, .ref (xd 18), .int x_time])), (hp, .inr (1, [.ref (pd 0), .ref (pd 1), .ref (pd 2), .ref hf, .int p_mC, .int p_nC, .int p_kC, .int p_units, .int p_copy, .int p_loss, .int p_draw])), (sd 1, .inl (cyI, 8, .inl s_has)), (sd 2, .inl (cyI, 8, .inl s_clean)), (hs, .inr (5, [.ref (sd 0), .ref (sd 1), .ref (sd 2), .ref (sd 3), .ref (sd 4), .ref (sd 5), .ref (sd 6), .int s_size, .int s_copier, .int s_copyLeft, .int s_tick, .int s_seed, .int s_dropped])), (sd 5, .inl (cyI, 41, .inl s_ks)), (sd 6, .inl (cyI, 41, .inl s_vs))] H := hP
        have hD : va_D A [(sd 0, .inl (cyI, 6, .inl s_row)), (hX, .inr (6, [.ref (xd 0), .int x_tapeLength, .ref hp, .ref hd, .ref hR0, .ref hu, .ref (xd 6), .int x_at, .int x_top, .ref hs, .ref hT, .ref (xd 11), .ref (xd 12), .ref (xd 13), .int x_lyingCount, .ref (xd 15), .int x_fewest, .ref hg, .ref (xd 18), .int x_time])), (hp, .inr (1, [.ref (pd 0), .ref (pd 1), .ref (pd 2), .ref hf, .int p_mC, .int p_nC, .int p_kC, .int p_units, .int p_copy, .int p_loss, .int p_draw])), (sd 1, .inl (cyI, 8, .inl s_has)), (sd 2, .inl (cyI, 8, .inl s_clean)), (hs, .inr (5, [.ref (sd 0), .ref (sd 1), .ref (sd 2), .ref (sd 3), .ref (sd 4), .ref (sd 5), .ref (sd 6), .int s_size, .int s_copier, .int s_copyLeft, .int s_tick, .int s_seed, .int s_dropped])), (sd 5, .inl (cyI, 41, .inl s_ks)), (sd 6, .inl (cyI, 41, .inl s_vs))] := hD
        exact W.iret (v := r17239) hx hb hr (fun t ht hW => ⟨⟨r17239, (), rfl, trivial, cE.of ht hP hD [1, 2, 5, 0, 3, 4, 6, 7] (by decide) rfl⟩, hS.F ht⟩) hS.2.2 dX6_read_70
      · have c17237 := i_nle (a := r17235.toInt) (b := 0) c17237 rfl (by decide)
        refine lv_aload_n hx hb dX6_read_31 rfl (lv_at hl 0 rfl) ?_
        refine va_get (D := (dC, dI)) (ci := 6) (v := .ref hs) (C := RX6) (T := TX6) (N := 20) hx hb hts hi6 hown hK hP 2 rfl rfl 9 (by decide) (hts _ (ow_m (k := 7) rfl)) (fun _ h9 => h9) rfl dX6_read_32 ?_
        refine va_get (D := (dC, dI)) (ci := 5) (v := .ref (sd 0)) (C := RX5) (T := TX5) (N := 13) hx hb hts hi5 hown hK hP 4 rfl rfl 0 (by decide) (hts _ (ow_m (k := 16) rfl)) (fun _ h9 => h9) rfl dX6_read_35 ?_
        refine lv_aload_n hx hb dX6_read_38 rfl (lv_at hl 0 rfl) ?_
        refine va_get (D := (dC, dI)) (ci := 6) (v := .ref hs) (C := RX6) (T := TX6) (N := 20) hx hb hts hi6 hown hK hP 2 rfl rfl 9 (by decide) (hts _ (ow_m (k := 7) rfl)) (fun _ h9 => h9) rfl dX6_read_39 ?_
        refine va_get (D := (dC, dI)) (ci := 5) (v := .int s_size) (C := RX5) (T := TX5) (N := 13) hx hb hts hi5 hown hK hP 4 rfl rfl 7 (by decide) (hts _ (ow_m (k := 17) rfl)) (fun _ h9 => h9) rfl dX6_read_42 ?_
        refine lv_iconst (v := 1) hx hb dX6_read_45 (by decide) ?_
        refine lv_isub hx hb dX6_read_46 ?_
        refine lv_topi (fun z17241 ez17241 => ?_)
        have tz17241 := ti_sub (a := s_size.toInt) (b := 1) ez17241 rfl (by decide) (by omega) (by omega)
        refine va_iald hx hb hK hP 1 1 rfl rfl (vp_i rfl (by omega) (by omega)) dX6_read_47 ?_
        refine lv_topi (fun z17242 ez17242 => ?_)
        have tz17242 := i0_s_row.at (x := z17241.toInt) ez17242 rfl (by omega) (by omega)
        refine lv_goto (tgt := 52) hx hb dX6_read_48 (by decide) ?_
        refine lv_istore_n (lv' := [(3, .int z17242), (0, .ref hX), (1, .int x1), (2, .int x2)]) hx hb dX6_read_52 rfl hl (by decide) rfl (fun ls hl => ?_)
        refine lv_aload_n hx hb dX6_read_53 rfl (lv_at hl 1 rfl) ?_
        refine va_get (D := (dC, dI)) (ci := 6) (v := .ref hs) (C := RX6) (T := TX6) (N := 20) hx hb hts hi6 hown hK hP 2 rfl rfl 9 (by decide) (hts _ (ow_m (k := 7) rfl)) (fun _ h9 => h9) rfl dX6_read_54 ?_
        refine lv_iload_n hx hb dX6_read_57 rfl (lv_at hl 3 rfl) ?_
        refine lv_aload_n hx hb dX6_read_58 rfl (lv_at hl 1 rfl) ?_
        refine va_get (D := (dC, dI)) (ci := 6) (v := .ref hs) (C := RX6) (T := TX6) (N := 20) hx hb hts hi6 hown hK hP 2 rfl rfl 9 (by decide) (hts _ (ow_m (k := 7) rfl)) (fun _ h9 => h9) rfl dX6_read_59 ?_
        refine va_get (D := (dC, dI)) (ci := 5) (v := .ref (sd 2)) (C := RX5) (T := TX5) (N := 13) hx hb hts hi5 hown hK hP 4 rfl rfl 2 (by decide) (hts _ (ow_m (k := 12) rfl)) (fun _ h9 => h9) rfl dX6_read_62 ?_
        refine lv_iload_n hx hb dX6_read_65 rfl (lv_at hl 0 rfl) ?_
        refine va_iald hx hb hK hP 6 1 rfl rfl (vp_i rfl (by omega) (by omega)) dX6_read_66 ?_
        refine lv_topi (fun z17243 ez17243 => ?_)
        have tz17243 := i0_s_clean.at (x := z17242.toInt) ez17243 rfl (by omega) (by omega)
        refine gf_i (wr := [(sd 0, .inl (cyI, 6, .inl s_row)), (hX, .inr (6, [.ref (xd 0), .int x_tapeLength, .ref hp, .ref hd, .ref hR0, .ref hu, .ref (xd 6), .int x_at, .int x_top, .ref hs, .ref hT, .ref (xd 11), .ref (xd 12), .ref (xd 13), .int x_lyingCount, .ref (xd 15), .int x_fewest, .ref hg, .ref (xd 18), .int x_time])), (hp, .inr (1, [.ref (pd 0), .ref (pd 1), .ref (pd 2), .ref hf, .int p_mC, .int p_nC, .int p_kC, .int p_units, .int p_copy, .int p_loss, .int p_draw])), (sd 1, .inl (cyI, 8, .inl s_has)), (sd 2, .inl (cyI, 8, .inl s_clean))]) (va_runV (As := [.int x2, .int z17243]) (rest := []) hfix (k_St_valueUpTo l dC dI cyB cyI cyJ cyZ cyO hs sd s_ks s_vs s_size s_copier s_copyLeft s_tick s_seed s_dropped x2 z17243 _ (by first | omega | assumption) (by first | omega | assumption) (by first | omega | assumption) (by first | omega | assumption) (by first | omega | assumption) (by first | omega | assumption)) (cwV 2 hts (gi_V (ow_m (k := 13) rfl) (ow_m (k := 14) rfl) (ow_m (k := 15) rfl) (ow_m (k := 11) rfl) (sb_c (sb_r (sb_r (sb_r sb_l)))) gd_k_St_valueUpTo) rfl rfl rfl (by decide +kernel) ⟨Nat.le_of_ble_eq_true rfl, Nat.le_of_ble_eq_true rfl⟩) (g_preV hKN hP hD [4, 7, 0] rfl (by decide) 0 5 rfl rfl) rfl rfl hl.1 rfl (lv_room (Nat.le_of_ble_eq_true rfl)) dX6_read_67 ⟨Nat.le_of_ble_eq_true rfl, Nat.le_of_ble_eq_true rfl⟩) hP hD hS hA [4, 7, 0] [1, 2, 3, 5, 6] rfl rfl (by decide) (by decide) (fun r17244 u17245 H locs qu17245 hP hD hS => ?_)
        have hP : va_P (dC, dI) vwCl [(sd 0, .inl (cyI, 6, .inl s_row)), (hX, .inr (6, [.ref (xd 0), .int x_tapeLength, .ref hp, .ref hd, .ref hR0, .ref hu, .ref (xd 6), .int x_at, .int x_top, .ref hs, .ref hT, .ref (xd 11), .ref (xd 12), .ref (xd 13), .int x_lyingCount, .ref (xd 15), .int x_fewest, .ref hg, .ref (xd 18), .int x_time])), (hp, .inr (1, [.ref (pd 0), .ref (pd 1), .ref (pd 2), .ref hf, .int p_mC, .int p_nC, .int p_kC, .int p_units, .int p_copy, .int p_loss, .int p_draw])), (sd 1, .inl (cyI, 8, .inl s_has)), (sd 2, .inl (cyI, 8, .inl s_clean)), (hs, .inr (5, [.ref (sd 0), .ref (sd 1), .ref (sd 2), .ref (sd 3), .ref (sd 4), .ref (sd 5), .ref (sd 6), .int s_size, .int s_copier, .int s_copyLeft, .int s_tick, .int s_seed, .int s_dropped])), (sd 5, .inl (cyI, 41, .inl s_ks)), (sd 6, .inl (cyI, 41, .inl s_vs))] H := hP
        have hD : va_D A [(sd 0, .inl (cyI, 6, .inl s_row)), (hX, .inr (6, [.ref (xd 0), .int x_tapeLength, .ref hp, .ref hd, .ref hR0, .ref hu, .ref (xd 6), .int x_at, .int x_top, .ref hs, .ref hT, .ref (xd 11), .ref (xd 12), .ref (xd 13), .int x_lyingCount, .ref (xd 15), .int x_fewest, .ref hg, .ref (xd 18), .int x_time])), (hp, .inr (1, [.ref (pd 0), .ref (pd 1), .ref (pd 2), .ref hf, .int p_mC, .int p_nC, .int p_kC, .int p_units, .int p_copy, .int p_loss, .int p_draw])), (sd 1, .inl (cyI, 8, .inl s_has)), (sd 2, .inl (cyI, 8, .inl s_clean)), (hs, .inr (5, [.ref (sd 0), .ref (sd 1), .ref (sd 2), .ref (sd 3), .ref (sd 4), .ref (sd 5), .ref (sd 6), .int s_size, .int s_copier, .int s_copyLeft, .int s_tick, .int s_seed, .int s_dropped])), (sd 5, .inl (cyI, 41, .inl s_ks)), (sd 6, .inl (cyI, 41, .inl s_vs))] := hD
        exact W.iret (v := r17244) hx hb hr (fun t ht hW => ⟨⟨r17244, (), rfl, trivial, cE.of ht hP hD [1, 2, 5, 0, 3, 4, 6, 7] (by decide) rfl⟩, hS.F ht⟩) hS.2.2 dX6_read_70
    · skip
      refine lv_if_ne (tgt := 19) hx hb dX6_read_13 (by decide) (fun c17246 => absurd (by decide) c17246) (fun _ => ?_)
      refine lv_bipush (v := (-2)) hx hb dX6_read_16 (by decide) ?_
      exact W.iret (v := (-2)) hx hb hr (fun t ht hW => ⟨⟨(-2), (), rfl, trivial, cE.of ht hP hD [6, 7, 4, 5, 0, 1, 2, 3] (by decide) rfl⟩, hS.F ht⟩) hS.2.2 dX6_read_18
  · skip
    refine lv_if_eq (tgt := 16) hx hb dX6_read_5 (by decide) (fun _ => ?_) (fun c17247 => absurd (by decide) c17247)
    refine lv_bipush (v := (-2)) hx hb dX6_read_16 (by decide) ?_
    exact W.iret (v := (-2)) hx hb hr (fun t ht hW => ⟨⟨(-2), (), rfl, trivial, cE.of ht hP hD [4, 5, 6, 7, 0, 1, 2, 3] (by decide) rfl⟩, hS.F ht⟩) hS.2.2 dX6_read_18
def wo_k_X_lazy : List Cond := [.methodLink RX6 239 yX6_isMember, .instanceMethod yX6_isMember, .selects RX6 yX6_isMember yX6_isMember, .initialized RX6, .methodLink RX6 215 yX6_isKey, .instanceMethod yX6_isKey, .selects RX6 yX6_isKey yX6_isKey, .fieldLink RX6 110 "ReplicaChain" "now" "LReplicaChain$State;", .fieldLink RX6 173 "ReplicaChain$State" "clean" "[I", .methodLink RX6 255 yX5_valueUpTo, .instanceMethod yX5_valueUpTo, .selects RX5 yX5_valueUpTo yX5_valueUpTo, .initialized RX5]
def wq_k_X_lazy : List Cond := .code yX6_lazy cX6_lazy 3 (some .int) :: (wo_k_X_lazy ++ (wq_k_X_isMember ++ (wq_k_X_isKey ++ (wq_k_St_valueUpTo ++ (wsX50 ++ (wsX60 ++ []))))))
theorem gd_k_X_lazy : Gd wq_k_X_lazy := gd_c (gd_a (gd_o (by decide +kernel)) (gd_a gd_k_X_isMember (gd_a gd_k_X_isKey (gd_a gd_k_St_valueUpTo (gd_a gd_u (gd_a gd_u gd_0))))))
abbrev wc_k_X_lazy (cyB cyI cyJ cyZ cyO : ClassId) (hX : Nat) (xd : Nat → Nat) (x_tapeLength : Int32) (x_at : Int32) (x_top : Int32) (x_lyingCount : Int32) (x_fewest : Int32) (x_time : Int32) (hp : Nat) (pd : Nat → Nat) (p_mC : Int32) (p_nC : Int32) (p_kC : Int32) (p_units : Int32) (p_copy : Int32) (p_loss : Int32) (p_draw : Int32) (hs : Nat) (sd : Nat → Nat) (s_row : Nat → Int32) (s_clean : Nat → Int32) (s_ks : Nat → Int32) (s_vs : Nat → Int32) (s_size : Int32) (s_copier : Int32) (s_copyLeft : Int32) (s_tick : Int32) (s_seed : Int32) (s_dropped : Int32) (x1 : Int32) (x2 : Int32) (hd : Nat) (hR0 : Nat) (hu : Nat) (hT : Nat) (hg : Nat) (hf : Nat) : va_W := [(hX, .inr (6, [.ref (xd 0), .int x_tapeLength, .ref hp, .ref hd, .ref hR0, .ref hu, .ref (xd 6), .int x_at, .int x_top, .ref hs, .ref hT, .ref (xd 11), .ref (xd 12), .ref (xd 13), .int x_lyingCount, .ref (xd 15), .int x_fewest, .ref hg, .ref (xd 18), .int x_time])), (hp, .inr (1, [.ref (pd 0), .ref (pd 1), .ref (pd 2), .ref hf, .int p_mC, .int p_nC, .int p_kC, .int p_units, .int p_copy, .int p_loss, .int p_draw])), (hs, .inr (5, [.ref (sd 0), .ref (sd 1), .ref (sd 2), .ref (sd 3), .ref (sd 4), .ref (sd 5), .ref (sd 6), .int s_size, .int s_copier, .int s_copyLeft, .int s_tick, .int s_seed, .int s_dropped])), (sd 0, .inl (cyI, 6, .inl s_row)), (sd 2, .inl (cyI, 8, .inl s_clean)), (sd 5, .inl (cyI, 41, .inl s_ks)), (sd 6, .inl (cyI, 41, .inl s_vs))]
set_option maxHeartbeats 4000000 in
set_option maxRecDepth 100000 in
theorem k_X_lazy (l : Launch) (dC : Nat → ClassId) (dI : Nat → Nat → Nat) (cyB cyI cyJ cyZ cyO : ClassId) (hX : Nat) (xd : Nat → Nat) (x_tapeLength : Int32) (x_at : Int32) (x_top : Int32) (x_lyingCount : Int32) (x_fewest : Int32) (x_time : Int32) (hp : Nat) (pd : Nat → Nat) (p_mC : Int32) (p_nC : Int32) (p_kC : Int32) (p_units : Int32) (p_copy : Int32) (p_loss : Int32) (p_draw : Int32) (hs : Nat) (sd : Nat → Nat) (s_row : Nat → Int32) (s_clean : Nat → Int32) (s_ks : Nat → Int32) (s_vs : Nat → Int32) (s_size : Int32) (s_copier : Int32) (s_copyLeft : Int32) (s_tick : Int32) (s_seed : Int32) (s_dropped : Int32) (x1 : Int32) (x2 : Int32) (hd : Nat) (hR0 : Nat) (hu : Nat) (hT : Nat) (hg : Nat) (hf : Nat) (sz : Nat) (l_x_tapeLength : 0 ≤ x_tapeLength.toInt) (u_x_tapeLength : x_tapeLength.toInt ≤ 1600) (l_x_at : 0 ≤ x_at.toInt) (u_x_at : x_at.toInt ≤ 40) (l_x_top : 0 ≤ x_top.toInt) (u_x_top : x_top.toInt ≤ 40) (l_x_lyingCount : 0 ≤ x_lyingCount.toInt) (u_x_lyingCount : x_lyingCount.toInt ≤ 6) (l_x_time : 0 ≤ x_time.toInt) (u_x_time : x_time.toInt ≤ 100000) (l_p_mC : 0 ≤ p_mC.toInt) (u_p_mC : p_mC.toInt ≤ 6) (l_p_nC : 0 ≤ p_nC.toInt) (u_p_nC : p_nC.toInt ≤ 8) (l_p_kC : 0 ≤ p_kC.toInt) (u_p_kC : p_kC.toInt ≤ 4) (l_p_draw : 0 ≤ p_draw.toInt) (u_p_draw : p_draw.toInt ≤ 999) (l_s_size : 0 ≤ s_size.toInt) (u_s_size : s_size.toInt ≤ 6) (l_s_copier : -1 ≤ s_copier.toInt) (u_s_copier : s_copier.toInt ≤ 7) (l_s_seed : 0 ≤ s_seed.toInt) (u_s_seed : s_seed.toInt ≤ 999) (i0_s_row : In2 s_row 0 6 (0) (7)) (i0_s_clean : In2 s_clean 0 8 (0) (40)) : Met l yX6_lazy wq_k_X_lazy ({ frames := 3, cells := 0, slots := 0, locals := 70 }) (va_Pc [.ref hX, .int x1, .int x2] (cB (dC, dI) (kT cyB cyI cyJ cyZ cyO) (wc_k_X_lazy cyB cyI cyJ cyZ cyO hX xd x_tapeLength x_at x_top x_lyingCount x_fewest x_time hp pd p_mC p_nC p_kC p_units p_copy p_loss p_draw hs sd s_row s_clean s_ks s_vs s_size s_copier s_copyLeft s_tick s_seed s_dropped x1 x2 hd hR0 hu hT hg hf) sz)) (va_Qi (fun (r : Int32) (u : Unit) => True) (fun (u : Unit) t => cE (dC, dI) (va_A (wc_k_X_lazy cyB cyI cyJ cyZ cyO hX xd x_tapeLength x_at x_top x_lyingCount x_fewest x_time hp pd p_mC p_nC p_kC p_units p_copy p_loss p_draw hs sd s_row s_clean s_ks s_vs s_size s_copier s_copyLeft s_tick s_seed s_dropped x1 x2 hd hR0 hu hT hg hf) sz) ([(hX, .inr (6, [.ref (xd 0), .int x_tapeLength, .ref hp, .ref hd, .ref hR0, .ref hu, .ref (xd 6), .int x_at, .int x_top, .ref hs, .ref hT, .ref (xd 11), .ref (xd 12), .ref (xd 13), .int x_lyingCount, .ref (xd 15), .int x_fewest, .ref hg, .ref (xd 18), .int x_time])), (hp, .inr (1, [.ref (pd 0), .ref (pd 1), .ref (pd 2), .ref hf, .int p_mC, .int p_nC, .int p_kC, .int p_units, .int p_copy, .int p_loss, .int p_draw])), (hs, .inr (5, [.ref (sd 0), .ref (sd 1), .ref (sd 2), .ref (sd 3), .ref (sd 4), .ref (sd 5), .ref (sd 6), .int s_size, .int s_copier, .int s_copyLeft, .int s_tick, .int s_seed, .int s_dropped])), (sd 0, .inl (cyI, 6, .inl s_row)), (sd 2, .inl (cyI, 8, .inl s_clean)), (sd 5, .inl (cyI, 41, .inl s_ks)), (sd 6, .inl (cyI, 41, .inl s_vs))]) t.heap) (va_A (wc_k_X_lazy cyB cyI cyJ cyZ cyO hX xd x_tapeLength x_at x_top x_lyingCount x_fewest x_time hp pd p_mC p_nC p_kC p_units p_copy p_loss p_draw hs sd s_row s_clean s_ks s_vs s_size s_copier s_copyLeft s_tick s_seed s_dropped x1 x2 hd hR0 hu hT hg hf) sz)) 0 0 (va_A (wc_k_X_lazy cyB cyI cyJ cyZ cyO hX xd x_tapeLength x_at x_top x_lyingCount x_fewest x_time hp pd p_mC p_nC p_kC p_units p_copy p_loss p_draw hs sd s_row s_clean s_ks s_vs s_size s_copier s_copyLeft s_tick s_seed s_dropped x1 x2 hd hR0 hu hT hg hf) sz) := by
  refine Met.ofW (cc := cX6_lazy) (maxL := 3) (ret := (some .int)) (by decide) rfl ?_
  intro p e s m args below meth c s₁ B hml hv
  obtain ⟨rfl, hsz, hP, hKN, hD0⟩ := hv
  have hx := B.exec
  have hb := B.bytes
  have hr := B.returns
  have hts := atoms_spec (ws := wq_k_X_lazy) B.pre
  have hown : s.vm.findClass RX6 = some m.cls := findClass_of_methodNamed B.named
  have hlocks := B.notSynchronized
  have hK := hKN.1
  have hfix : CallFix p m c cX6_lazy 3 s [.ref hX, .int x1, .int x2].toArray wq_k_X_lazy RX6 := ⟨hx, hb, hml, hown, hts⟩
  have hi5 : ∀ w ∈ wsX50, w ∈ wq_k_X_lazy := (sb_c (sb_r (sb_r (sb_r sb_l))))
  have hi6 : ∀ w ∈ wsX60, w ∈ wq_k_X_lazy := (sb_c (sb_r (sb_r (sb_r (sb_r sb_l)))))
  subst hsz
  have hD := hD0.self (sz := s.heap.size)
  generalize hAe : va_A (wc_k_X_lazy cyB cyI cyJ cyZ cyO hX xd x_tapeLength x_at x_top x_lyingCount x_fewest x_time hp pd p_mC p_nC p_kC p_units p_copy p_loss p_draw hs sd s_row s_clean s_ks s_vs s_size s_copier s_copyLeft s_tick s_seed s_dropped x1 x2 hd hR0 hu hT hg hf) s.heap.size = A at hD ⊢
  have hA : ∀ q : Nat, s.heap.size ≤ q → A q := fun q h => by rw [← hAe]; exact Or.inr h
  have hS : va_S A s.heap s.heap [] := va_S.rf
  have hl := lv_entry ([.ref hX, .int x1, .int x2]) (n := 3) (Nat.le_of_ble_eq_true rfl)
  rw [lg_entry_eq]
  generalize (lg_sl ([.ref hX, .int x1, .int x2]) ++ List.replicate (3 - (lg_sl ([.ref hX, .int x1, .int x2])).length) Slot.unset).toArray = ls at hl ⊢
  have hl : lv_has ls 3 [(0, .ref hX), (1, .int x1), (2, .int x2)] := hl
  have ck0 : (0 : Int32).toInt = 0 := by decide
  have ck1 : (1 : Int32).toInt = 1 := by decide
  refine lv_aload_n hx hb dX6_lazy_0 rfl (lv_at hl 0 rfl) ?_
  refine lv_iload_n hx hb dX6_lazy_1 rfl (lv_at hl 1 rfl) ?_
  refine gf_i (wr := [(sd 2, .inl (cyI, 8, .inl s_clean)), (sd 5, .inl (cyI, 41, .inl s_ks)), (sd 6, .inl (cyI, 41, .inl s_vs))]) (va_runV (As := [.int x1]) (rest := []) hfix (k_X_isMember l dC dI cyB cyI cyJ cyZ cyO hX xd x_tapeLength x_at x_top x_lyingCount x_fewest x_time hp pd p_mC p_nC p_kC p_units p_copy p_loss p_draw hs sd s_row s_size s_copier s_copyLeft s_tick s_seed s_dropped x1 hd hR0 hu hT hg hf _ (by first | omega | assumption) (by first | omega | assumption) (by first | omega | assumption) (by first | omega | assumption) (by first | omega | assumption) (by first | omega | assumption) (by first | omega | assumption) (by first | omega | assumption) (by first | omega | assumption) (by first | omega | assumption) (by first | omega | assumption) (by first | omega | assumption) (by first | omega | assumption) (by first | omega | assumption) (by first | omega | assumption) (by first | omega | assumption) (by first | omega | assumption) (by first | omega | assumption) (by first | omega | assumption) (by first | omega | assumption) (by first | omega | assumption) (by first | omega | assumption) (by first | omega | assumption) (by first | omega | assumption) i0_s_row) (cwV 1 hts (gi_V (ow_m (k := 0) rfl) (ow_m (k := 1) rfl) (ow_m (k := 2) rfl) (ow_m (k := 3) rfl) (sb_c sb_l) gd_k_X_isMember) rfl rfl rfl (by decide +kernel) ⟨Nat.le_of_ble_eq_true rfl, Nat.le_of_ble_eq_true rfl⟩) (g_preV hKN hP hD [0, 1, 2, 3] rfl (by decide) 0 6 rfl rfl) rfl rfl hl.1 rfl (lv_room (Nat.le_of_ble_eq_true rfl)) dX6_lazy_2 ⟨Nat.le_of_ble_eq_true rfl, Nat.le_of_ble_eq_true rfl⟩) hP hD hS hA [0, 1, 2, 3] [4, 5, 6] rfl rfl (by decide) (by decide) (fun r17288 u17289 H locs qu17289 hP hD hS => ?_)
  have b17290 := qu17289
  have hP : va_P (dC, dI) vwCl [(sd 2, .inl (cyI, 8, .inl s_clean)), (sd 5, .inl (cyI, 41, .inl s_ks)), (sd 6, .inl (cyI, 41, .inl s_vs)), (hX, .inr (6, [.ref (xd 0), .int x_tapeLength, .ref hp, .ref hd, .ref hR0, .ref hu, .ref (xd 6), .int x_at, .int x_top, .ref hs, .ref hT, .ref (xd 11), .ref (xd 12), .ref (xd 13), .int x_lyingCount, .ref (xd 15), .int x_fewest, .ref hg, .ref (xd 18), .int x_time])), (hp, .inr (1, [.ref (pd 0), .ref (pd 1), .ref (pd 2), .ref hf, .int p_mC, .int p_nC, .int p_kC, .int p_units, .int p_copy, .int p_loss, .int p_draw])), (hs, .inr (5, [.ref (sd 0), .ref (sd 1), .ref (sd 2), .ref (sd 3), .ref (sd 4), .ref (sd 5), .ref (sd 6), .int s_size, .int s_copier, .int s_copyLeft, .int s_tick, .int s_seed, .int s_dropped])), (sd 0, .inl (cyI, 6, .inl s_row))] H := hP
  have hD : va_D A [(sd 2, .inl (cyI, 8, .inl s_clean)), (sd 5, .inl (cyI, 41, .inl s_ks)), (sd 6, .inl (cyI, 41, .inl s_vs)), (hX, .inr (6, [.ref (xd 0), .int x_tapeLength, .ref hp, .ref hd, .ref hR0, .ref hu, .ref (xd 6), .int x_at, .int x_top, .ref hs, .ref hT, .ref (xd 11), .ref (xd 12), .ref (xd 13), .int x_lyingCount, .ref (xd 15), .int x_fewest, .ref hg, .ref (xd 18), .int x_time])), (hp, .inr (1, [.ref (pd 0), .ref (pd 1), .ref (pd 2), .ref hf, .int p_mC, .int p_nC, .int p_kC, .int p_units, .int p_copy, .int p_loss, .int p_draw])), (hs, .inr (5, [.ref (sd 0), .ref (sd 1), .ref (sd 2), .ref (sd 3), .ref (sd 4), .ref (sd 5), .ref (sd 6), .int s_size, .int s_copier, .int s_copyLeft, .int s_tick, .int s_seed, .int s_dropped])), (sd 0, .inl (cyI, 6, .inl s_row))] := hD
  rcases b17290 with ⟨rfl, b17291, b17292, b17293, b17294⟩ | rfl
  · skip
    refine lv_if_eq (tgt := 16) hx hb dX6_lazy_5 (by decide) (fun c17295 => absurd c17295 (by decide)) (fun _ => ?_)
    refine lv_aload_n hx hb dX6_lazy_8 rfl (lv_at hl 0 rfl) ?_
    refine lv_iload_n hx hb dX6_lazy_9 rfl (lv_at hl 2 rfl) ?_
    refine gf_i (wr := [(sd 2, .inl (cyI, 8, .inl s_clean)), (sd 5, .inl (cyI, 41, .inl s_ks)), (sd 6, .inl (cyI, 41, .inl s_vs)), (hs, .inr (5, [.ref (sd 0), .ref (sd 1), .ref (sd 2), .ref (sd 3), .ref (sd 4), .ref (sd 5), .ref (sd 6), .int s_size, .int s_copier, .int s_copyLeft, .int s_tick, .int s_seed, .int s_dropped])), (sd 0, .inl (cyI, 6, .inl s_row))]) (va_runV (As := [.int x2]) (rest := []) hfix (k_X_isKey l dC dI cyB cyI cyJ cyZ cyO hX xd x_tapeLength x_at x_top x_lyingCount x_fewest x_time hp pd p_mC p_nC p_kC p_units p_copy p_loss p_draw x2 hd hR0 hu hs hT hg hf _ (by first | omega | assumption) (by first | omega | assumption) (by first | omega | assumption) (by first | omega | assumption) (by first | omega | assumption) (by first | omega | assumption) (by first | omega | assumption) (by first | omega | assumption) (by first | omega | assumption) (by first | omega | assumption) (by first | omega | assumption) (by first | omega | assumption) (by first | omega | assumption) (by first | omega | assumption) (by first | omega | assumption) (by first | omega | assumption) (by first | omega | assumption) (by first | omega | assumption)) (cwV 1 hts (gi_V (ow_m (k := 4) rfl) (ow_m (k := 5) rfl) (ow_m (k := 6) rfl) (ow_m (k := 3) rfl) (sb_c (sb_r sb_l)) gd_k_X_isKey) rfl rfl rfl (by decide +kernel) ⟨Nat.le_of_ble_eq_true rfl, Nat.le_of_ble_eq_true rfl⟩) (g_preV hKN hP hD [3, 4] rfl (by decide) 0 6 rfl rfl) rfl rfl hl.1 rfl (lv_room (Nat.le_of_ble_eq_true rfl)) dX6_lazy_10 ⟨Nat.le_of_ble_eq_true rfl, Nat.le_of_ble_eq_true rfl⟩) hP hD hS hA [3, 4] [0, 1, 2, 5, 6] rfl rfl (by decide) (by decide) (fun r17296 u17297 H locs qu17297 hP hD hS => ?_)
    have b17298 := qu17297
    have hP : va_P (dC, dI) vwCl [(sd 2, .inl (cyI, 8, .inl s_clean)), (sd 5, .inl (cyI, 41, .inl s_ks)), (sd 6, .inl (cyI, 41, .inl s_vs)), (hs, .inr (5, [.ref (sd 0), .ref (sd 1), .ref (sd 2), .ref (sd 3), .ref (sd 4), .ref (sd 5), .ref (sd 6), .int s_size, .int s_copier, .int s_copyLeft, .int s_tick, .int s_seed, .int s_dropped])), (sd 0, .inl (cyI, 6, .inl s_row)), (hX, .inr (6, [.ref (xd 0), .int x_tapeLength, .ref hp, .ref hd, .ref hR0, .ref hu, .ref (xd 6), .int x_at, .int x_top, .ref hs, .ref hT, .ref (xd 11), .ref (xd 12), .ref (xd 13), .int x_lyingCount, .ref (xd 15), .int x_fewest, .ref hg, .ref (xd 18), .int x_time])), (hp, .inr (1, [.ref (pd 0), .ref (pd 1), .ref (pd 2), .ref hf, .int p_mC, .int p_nC, .int p_kC, .int p_units, .int p_copy, .int p_loss, .int p_draw]))] H := hP
    have hD : va_D A [(sd 2, .inl (cyI, 8, .inl s_clean)), (sd 5, .inl (cyI, 41, .inl s_ks)), (sd 6, .inl (cyI, 41, .inl s_vs)), (hs, .inr (5, [.ref (sd 0), .ref (sd 1), .ref (sd 2), .ref (sd 3), .ref (sd 4), .ref (sd 5), .ref (sd 6), .int s_size, .int s_copier, .int s_copyLeft, .int s_tick, .int s_seed, .int s_dropped])), (sd 0, .inl (cyI, 6, .inl s_row)), (hX, .inr (6, [.ref (xd 0), .int x_tapeLength, .ref hp, .ref hd, .ref hR0, .ref hu, .ref (xd 6), .int x_at, .int x_top, .ref hs, .ref hT, .ref (xd 11), .ref (xd 12), .ref (xd 13), .int x_lyingCount, .ref (xd 15), .int x_fewest, .ref hg, .ref (xd 18), .int x_time])), (hp, .inr (1, [.ref (pd 0), .ref (pd 1), .ref (pd 2), .ref hf, .int p_mC, .int p_nC, .int p_kC, .int p_units, .int p_copy, .int p_loss, .int p_draw]))] := hD
    rcases b17298 with ⟨rfl, b17299, b17300, b17301⟩ | rfl
    · skip
      refine lv_if_ne (tgt := 19) hx hb dX6_lazy_13 (by decide) (fun _ => ?_) (fun c17302 => absurd c17302 (by decide))
      refine lv_aload_n hx hb dX6_lazy_19 rfl (lv_at hl 0 rfl) ?_
      refine va_get (D := (dC, dI)) (ci := 6) (v := .ref hs) (C := RX6) (T := TX6) (N := 20) hx hb hts hi6 hown hK hP 5 rfl rfl 9 (by decide) (hts _ (ow_m (k := 7) rfl)) (fun _ h9 => h9) rfl dX6_lazy_20 ?_
      refine lv_iload_n hx hb dX6_lazy_23 rfl (lv_at hl 2 rfl) ?_
      refine lv_aload_n hx hb dX6_lazy_24 rfl (lv_at hl 0 rfl) ?_
      refine va_get (D := (dC, dI)) (ci := 6) (v := .ref hs) (C := RX6) (T := TX6) (N := 20) hx hb hts hi6 hown hK hP 5 rfl rfl 9 (by decide) (hts _ (ow_m (k := 7) rfl)) (fun _ h9 => h9) rfl dX6_lazy_25 ?_
      refine va_get (D := (dC, dI)) (ci := 5) (v := .ref (sd 2)) (C := RX5) (T := TX5) (N := 13) hx hb hts hi5 hown hK hP 3 rfl rfl 2 (by decide) (hts _ (ow_m (k := 8) rfl)) (fun _ h9 => h9) rfl dX6_lazy_28 ?_
      refine lv_iload_n hx hb dX6_lazy_31 rfl (lv_at hl 1 rfl) ?_
      refine va_iald hx hb hK hP 0 1 rfl rfl (vp_i rfl (by omega) (by omega)) dX6_lazy_32 ?_
      refine lv_topi (fun z17303 ez17303 => ?_)
      have tz17303 := i0_s_clean.at (x := x1.toInt) ez17303 rfl (by omega) (by omega)
      refine gf_i (wr := [(sd 2, .inl (cyI, 8, .inl s_clean)), (sd 0, .inl (cyI, 6, .inl s_row)), (hX, .inr (6, [.ref (xd 0), .int x_tapeLength, .ref hp, .ref hd, .ref hR0, .ref hu, .ref (xd 6), .int x_at, .int x_top, .ref hs, .ref hT, .ref (xd 11), .ref (xd 12), .ref (xd 13), .int x_lyingCount, .ref (xd 15), .int x_fewest, .ref hg, .ref (xd 18), .int x_time])), (hp, .inr (1, [.ref (pd 0), .ref (pd 1), .ref (pd 2), .ref hf, .int p_mC, .int p_nC, .int p_kC, .int p_units, .int p_copy, .int p_loss, .int p_draw]))]) (va_runV (As := [.int x2, .int z17303]) (rest := []) hfix (k_St_valueUpTo l dC dI cyB cyI cyJ cyZ cyO hs sd s_ks s_vs s_size s_copier s_copyLeft s_tick s_seed s_dropped x2 z17303 _ (by first | omega | assumption) (by first | omega | assumption) (by first | omega | assumption) (by first | omega | assumption) (by first | omega | assumption) (by first | omega | assumption)) (cwV 2 hts (gi_V (ow_m (k := 9) rfl) (ow_m (k := 10) rfl) (ow_m (k := 11) rfl) (ow_m (k := 12) rfl) (sb_c (sb_r (sb_r sb_l))) gd_k_St_valueUpTo) rfl rfl rfl (by decide +kernel) ⟨Nat.le_of_ble_eq_true rfl, Nat.le_of_ble_eq_true rfl⟩) (g_preV hKN hP hD [3, 1, 2] rfl (by decide) 0 5 rfl rfl) rfl rfl hl.1 rfl (lv_room (Nat.le_of_ble_eq_true rfl)) dX6_lazy_33 ⟨Nat.le_of_ble_eq_true rfl, Nat.le_of_ble_eq_true rfl⟩) hP hD hS hA [3, 1, 2] [0, 4, 5, 6] rfl rfl (by decide) (by decide) (fun r17304 u17305 H locs qu17305 hP hD hS => ?_)
      have hP : va_P (dC, dI) vwCl [(sd 2, .inl (cyI, 8, .inl s_clean)), (sd 0, .inl (cyI, 6, .inl s_row)), (hX, .inr (6, [.ref (xd 0), .int x_tapeLength, .ref hp, .ref hd, .ref hR0, .ref hu, .ref (xd 6), .int x_at, .int x_top, .ref hs, .ref hT, .ref (xd 11), .ref (xd 12), .ref (xd 13), .int x_lyingCount, .ref (xd 15), .int x_fewest, .ref hg, .ref (xd 18), .int x_time])), (hp, .inr (1, [.ref (pd 0), .ref (pd 1), .ref (pd 2), .ref hf, .int p_mC, .int p_nC, .int p_kC, .int p_units, .int p_copy, .int p_loss, .int p_draw])), (hs, .inr (5, [.ref (sd 0), .ref (sd 1), .ref (sd 2), .ref (sd 3), .ref (sd 4), .ref (sd 5), .ref (sd 6), .int s_size, .int s_copier, .int s_copyLeft, .int s_tick, .int s_seed, .int s_dropped])), (sd 5, .inl (cyI, 41, .inl s_ks)), (sd 6, .inl (cyI, 41, .inl s_vs))] H := hP
      have hD : va_D A [(sd 2, .inl (cyI, 8, .inl s_clean)), (sd 0, .inl (cyI, 6, .inl s_row)), (hX, .inr (6, [.ref (xd 0), .int x_tapeLength, .ref hp, .ref hd, .ref hR0, .ref hu, .ref (xd 6), .int x_at, .int x_top, .ref hs, .ref hT, .ref (xd 11), .ref (xd 12), .ref (xd 13), .int x_lyingCount, .ref (xd 15), .int x_fewest, .ref hg, .ref (xd 18), .int x_time])), (hp, .inr (1, [.ref (pd 0), .ref (pd 1), .ref (pd 2), .ref hf, .int p_mC, .int p_nC, .int p_kC, .int p_units, .int p_copy, .int p_loss, .int p_draw])), (hs, .inr (5, [.ref (sd 0), .ref (sd 1), .ref (sd 2), .ref (sd 3), .ref (sd 4), .ref (sd 5), .ref (sd 6), .int s_size, .int s_copier, .int s_copyLeft, .int s_tick, .int s_seed, .int s_dropped])), (sd 5, .inl (cyI, 41, .inl s_ks)), (sd 6, .inl (cyI, 41, .inl s_vs))] := hD
      exact W.iret (v := r17304) hx hb hr (fun t ht hW => ⟨⟨r17304, (), rfl, trivial, cE.of ht hP hD [2, 3, 4, 1, 0, 5, 6] (by decide) rfl⟩, hS.F ht⟩) hS.2.2 dX6_lazy_36
    · skip
      refine lv_if_ne (tgt := 19) hx hb dX6_lazy_13 (by decide) (fun c17306 => absurd (by decide) c17306) (fun _ => ?_)
      refine lv_bipush (v := (-2)) hx hb dX6_lazy_16 (by decide) ?_
      exact W.iret (v := (-2)) hx hb hr (fun t ht hW => ⟨⟨(-2), (), rfl, trivial, cE.of ht hP hD [5, 6, 3, 4, 0, 1, 2] (by decide) rfl⟩, hS.F ht⟩) hS.2.2 dX6_lazy_18
  · skip
    refine lv_if_eq (tgt := 16) hx hb dX6_lazy_5 (by decide) (fun _ => ?_) (fun c17307 => absurd (by decide) c17307)
    refine lv_bipush (v := (-2)) hx hb dX6_lazy_16 (by decide) ?_
    exact W.iret (v := (-2)) hx hb hr (fun t ht hW => ⟨⟨(-2), (), rfl, trivial, cE.of ht hP hD [3, 4, 5, 6, 0, 1, 2] (by decide) rfl⟩, hS.F ht⟩) hS.2.2 dX6_lazy_18
def wo_k_X_askers : List Cond := [.methodLink RX6 215 yX6_isKey, .instanceMethod yX6_isKey, .selects RX6 yX6_isKey yX6_isKey, .initialized RX6, .fieldLink RX6 110 "ReplicaChain" "now" "LReplicaChain$State;", .fieldLink RX6 157 "ReplicaChain$State" "size" "I", .fieldLink RX6 160 "ReplicaChain$State" "row" "[I", .methodLink RX6 252 yX5_dirtyOf, .instanceMethod yX5_dirtyOf, .selects RX5 yX5_dirtyOf yX5_dirtyOf, .initialized RX5]
def wq_k_X_askers : List Cond := .code yX6_askers cX6_askers 5 (some .int) :: (wo_k_X_askers ++ (wq_k_X_isKey ++ (wq_k_St_dirtyOf ++ (wsX50 ++ (wsX60 ++ [])))))
theorem gd_k_X_askers : Gd wq_k_X_askers := gd_c (gd_a (gd_o (by decide +kernel)) (gd_a gd_k_X_isKey (gd_a gd_k_St_dirtyOf (gd_a gd_u (gd_a gd_u gd_0)))))
abbrev wc_k_X_askers (cyB cyI cyJ cyZ cyO : ClassId) (hX : Nat) (xd : Nat → Nat) (x_tapeLength : Int32) (x_at : Int32) (x_top : Int32) (x_lyingCount : Int32) (x_fewest : Int32) (x_time : Int32) (hp : Nat) (pd : Nat → Nat) (p_mC : Int32) (p_nC : Int32) (p_kC : Int32) (p_units : Int32) (p_copy : Int32) (p_loss : Int32) (p_draw : Int32) (hs : Nat) (sd : Nat → Nat) (s_row : Nat → Int32) (s_has : Nat → Int32) (s_clean : Nat → Int32) (s_ks : Nat → Int32) (s_size : Int32) (s_copier : Int32) (s_copyLeft : Int32) (s_tick : Int32) (s_seed : Int32) (s_dropped : Int32) (x1 : Int32) (hd : Nat) (hR0 : Nat) (hu : Nat) (hT : Nat) (hg : Nat) (hf : Nat) : va_W := [(hX, .inr (6, [.ref (xd 0), .int x_tapeLength, .ref hp, .ref hd, .ref hR0, .ref hu, .ref (xd 6), .int x_at, .int x_top, .ref hs, .ref hT, .ref (xd 11), .ref (xd 12), .ref (xd 13), .int x_lyingCount, .ref (xd 15), .int x_fewest, .ref hg, .ref (xd 18), .int x_time])), (hp, .inr (1, [.ref (pd 0), .ref (pd 1), .ref (pd 2), .ref hf, .int p_mC, .int p_nC, .int p_kC, .int p_units, .int p_copy, .int p_loss, .int p_draw])), (hs, .inr (5, [.ref (sd 0), .ref (sd 1), .ref (sd 2), .ref (sd 3), .ref (sd 4), .ref (sd 5), .ref (sd 6), .int s_size, .int s_copier, .int s_copyLeft, .int s_tick, .int s_seed, .int s_dropped])), (sd 0, .inl (cyI, 6, .inl s_row)), (sd 1, .inl (cyI, 8, .inl s_has)), (sd 2, .inl (cyI, 8, .inl s_clean)), (sd 5, .inl (cyI, 41, .inl s_ks))]
set_option maxHeartbeats 4000000 in
set_option maxRecDepth 100000 in
theorem k_X_askers (l : Launch) (dC : Nat → ClassId) (dI : Nat → Nat → Nat) (cyB cyI cyJ cyZ cyO : ClassId) (hX : Nat) (xd : Nat → Nat) (x_tapeLength : Int32) (x_at : Int32) (x_top : Int32) (x_lyingCount : Int32) (x_fewest : Int32) (x_time : Int32) (hp : Nat) (pd : Nat → Nat) (p_mC : Int32) (p_nC : Int32) (p_kC : Int32) (p_units : Int32) (p_copy : Int32) (p_loss : Int32) (p_draw : Int32) (hs : Nat) (sd : Nat → Nat) (s_row : Nat → Int32) (s_has : Nat → Int32) (s_clean : Nat → Int32) (s_ks : Nat → Int32) (s_size : Int32) (s_copier : Int32) (s_copyLeft : Int32) (s_tick : Int32) (s_seed : Int32) (s_dropped : Int32) (x1 : Int32) (hd : Nat) (hR0 : Nat) (hu : Nat) (hT : Nat) (hg : Nat) (hf : Nat) (sz : Nat) (l_x_tapeLength : 0 ≤ x_tapeLength.toInt) (u_x_tapeLength : x_tapeLength.toInt ≤ 1600) (l_x_at : 0 ≤ x_at.toInt) (u_x_at : x_at.toInt ≤ 40) (l_x_top : 0 ≤ x_top.toInt) (u_x_top : x_top.toInt ≤ 40) (l_x_lyingCount : 0 ≤ x_lyingCount.toInt) (u_x_lyingCount : x_lyingCount.toInt ≤ 6) (l_x_time : 0 ≤ x_time.toInt) (u_x_time : x_time.toInt ≤ 100000) (l_p_mC : 0 ≤ p_mC.toInt) (u_p_mC : p_mC.toInt ≤ 6) (l_p_nC : 0 ≤ p_nC.toInt) (u_p_nC : p_nC.toInt ≤ 8) (l_p_kC : 0 ≤ p_kC.toInt) (u_p_kC : p_kC.toInt ≤ 4) (l_p_draw : 0 ≤ p_draw.toInt) (u_p_draw : p_draw.toInt ≤ 999) (l_s_size : 0 ≤ s_size.toInt) (u_s_size : s_size.toInt ≤ 6) (l_s_copier : -1 ≤ s_copier.toInt) (u_s_copier : s_copier.toInt ≤ 7) (l_s_seed : 0 ≤ s_seed.toInt) (u_s_seed : s_seed.toInt ≤ 999) (i0_s_row : In2 s_row 0 6 (0) (7)) (i0_s_has : In2 s_has 0 8 (0) (40)) (i0_s_clean : In2 s_clean 0 8 (0) (40)) : Met l yX6_askers wq_k_X_askers ({ frames := 1, cells := 0, slots := 0, locals := 24 }) (va_Pc [.ref hX, .int x1] (cB (dC, dI) (kT cyB cyI cyJ cyZ cyO) (wc_k_X_askers cyB cyI cyJ cyZ cyO hX xd x_tapeLength x_at x_top x_lyingCount x_fewest x_time hp pd p_mC p_nC p_kC p_units p_copy p_loss p_draw hs sd s_row s_has s_clean s_ks s_size s_copier s_copyLeft s_tick s_seed s_dropped x1 hd hR0 hu hT hg hf) sz)) (va_Qi (fun (r : Int32) (u : Unit) => True) (fun (u : Unit) t => cE (dC, dI) (va_A (wc_k_X_askers cyB cyI cyJ cyZ cyO hX xd x_tapeLength x_at x_top x_lyingCount x_fewest x_time hp pd p_mC p_nC p_kC p_units p_copy p_loss p_draw hs sd s_row s_has s_clean s_ks s_size s_copier s_copyLeft s_tick s_seed s_dropped x1 hd hR0 hu hT hg hf) sz) ([(hX, .inr (6, [.ref (xd 0), .int x_tapeLength, .ref hp, .ref hd, .ref hR0, .ref hu, .ref (xd 6), .int x_at, .int x_top, .ref hs, .ref hT, .ref (xd 11), .ref (xd 12), .ref (xd 13), .int x_lyingCount, .ref (xd 15), .int x_fewest, .ref hg, .ref (xd 18), .int x_time])), (hp, .inr (1, [.ref (pd 0), .ref (pd 1), .ref (pd 2), .ref hf, .int p_mC, .int p_nC, .int p_kC, .int p_units, .int p_copy, .int p_loss, .int p_draw])), (hs, .inr (5, [.ref (sd 0), .ref (sd 1), .ref (sd 2), .ref (sd 3), .ref (sd 4), .ref (sd 5), .ref (sd 6), .int s_size, .int s_copier, .int s_copyLeft, .int s_tick, .int s_seed, .int s_dropped])), (sd 0, .inl (cyI, 6, .inl s_row)), (sd 1, .inl (cyI, 8, .inl s_has)), (sd 2, .inl (cyI, 8, .inl s_clean)), (sd 5, .inl (cyI, 41, .inl s_ks))]) t.heap) (va_A (wc_k_X_askers cyB cyI cyJ cyZ cyO hX xd x_tapeLength x_at x_top x_lyingCount x_fewest x_time hp pd p_mC p_nC p_kC p_units p_copy p_loss p_draw hs sd s_row s_has s_clean s_ks s_size s_copier s_copyLeft s_tick s_seed s_dropped x1 hd hR0 hu hT hg hf) sz)) 0 0 (va_A (wc_k_X_askers cyB cyI cyJ cyZ cyO hX xd x_tapeLength x_at x_top x_lyingCount x_fewest x_time hp pd p_mC p_nC p_kC p_units p_copy p_loss p_draw hs sd s_row s_has s_clean s_ks s_size s_copier s_copyLeft s_tick s_seed s_dropped x1 hd hR0 hu hT hg hf) sz) := by
  refine Met.ofW (cc := cX6_askers) (maxL := 5) (ret := (some .int)) (by decide) rfl ?_
  intro p e s m args below meth c s₁ B hml hv
  obtain ⟨rfl, hsz, hP, hKN, hD0⟩ := hv
  have hx := B.exec
  have hb := B.bytes
  have hr := B.returns
  have hts := atoms_spec (ws := wq_k_X_askers) B.pre
  have hown : s.vm.findClass RX6 = some m.cls := findClass_of_methodNamed B.named
  have hlocks := B.notSynchronized
  have hK := hKN.1
  have hfix : CallFix p m c cX6_askers 5 s [.ref hX, .int x1].toArray wq_k_X_askers RX6 := ⟨hx, hb, hml, hown, hts⟩
  have hi5 : ∀ w ∈ wsX50, w ∈ wq_k_X_askers := (sb_c (sb_r (sb_r sb_l)))
  have hi6 : ∀ w ∈ wsX60, w ∈ wq_k_X_askers := (sb_c (sb_r (sb_r (sb_r sb_l))))
  subst hsz
  have hD := hD0.self (sz := s.heap.size)
  generalize hAe : va_A (wc_k_X_askers cyB cyI cyJ cyZ cyO hX xd x_tapeLength x_at x_top x_lyingCount x_fewest x_time hp pd p_mC p_nC p_kC p_units p_copy p_loss p_draw hs sd s_row s_has s_clean s_ks s_size s_copier s_copyLeft s_tick s_seed s_dropped x1 hd hR0 hu hT hg hf) s.heap.size = A at hD ⊢
  have hA : ∀ q : Nat, s.heap.size ≤ q → A q := fun q h => by rw [← hAe]; exact Or.inr h
  have hS : va_S A s.heap s.heap [] := va_S.rf
  have hl := lv_entry ([.ref hX, .int x1]) (n := 5) (Nat.le_of_ble_eq_true rfl)
  rw [lg_entry_eq]
  generalize (lg_sl ([.ref hX, .int x1]) ++ List.replicate (5 - (lg_sl ([.ref hX, .int x1])).length) Slot.unset).toArray = ls at hl ⊢
  have hl : lv_has ls 5 [(0, .ref hX), (1, .int x1)] := hl
  have ck0 : (0 : Int32).toInt = 0 := by decide
  have ck1 : (1 : Int32).toInt = 1 := by decide
  refine lv_aload_n hx hb dX6_askers_0 rfl (lv_at hl 0 rfl) ?_
  refine lv_iload_n hx hb dX6_askers_1 rfl (lv_at hl 1 rfl) ?_
  refine gf_i (wr := [(hs, .inr (5, [.ref (sd 0), .ref (sd 1), .ref (sd 2), .ref (sd 3), .ref (sd 4), .ref (sd 5), .ref (sd 6), .int s_size, .int s_copier, .int s_copyLeft, .int s_tick, .int s_seed, .int s_dropped])), (sd 0, .inl (cyI, 6, .inl s_row)), (sd 1, .inl (cyI, 8, .inl s_has)), (sd 2, .inl (cyI, 8, .inl s_clean)), (sd 5, .inl (cyI, 41, .inl s_ks))]) (va_runV (As := [.int x1]) (rest := []) hfix (k_X_isKey l dC dI cyB cyI cyJ cyZ cyO hX xd x_tapeLength x_at x_top x_lyingCount x_fewest x_time hp pd p_mC p_nC p_kC p_units p_copy p_loss p_draw x1 hd hR0 hu hs hT hg hf _ (by first | omega | assumption) (by first | omega | assumption) (by first | omega | assumption) (by first | omega | assumption) (by first | omega | assumption) (by first | omega | assumption) (by first | omega | assumption) (by first | omega | assumption) (by first | omega | assumption) (by first | omega | assumption) (by first | omega | assumption) (by first | omega | assumption) (by first | omega | assumption) (by first | omega | assumption) (by first | omega | assumption) (by first | omega | assumption) (by first | omega | assumption) (by first | omega | assumption)) (cwV 1 hts (gi_V (ow_m (k := 0) rfl) (ow_m (k := 1) rfl) (ow_m (k := 2) rfl) (ow_m (k := 3) rfl) (sb_c sb_l) gd_k_X_isKey) rfl rfl rfl (by decide +kernel) ⟨Nat.le_of_ble_eq_true rfl, Nat.le_of_ble_eq_true rfl⟩) (g_preV hKN hP hD [0, 1] rfl (by decide) 0 6 rfl rfl) rfl rfl hl.1 rfl (lv_room (Nat.le_of_ble_eq_true rfl)) dX6_askers_2 ⟨Nat.le_of_ble_eq_true rfl, Nat.le_of_ble_eq_true rfl⟩) hP hD hS hA [0, 1] [2, 3, 4, 5, 6] rfl rfl (by decide) (by decide) (fun r17604 u17605 H locs qu17605 hP hD hS => ?_)
  have b17606 := qu17605
  have hP : va_P (dC, dI) vwCl [(hs, .inr (5, [.ref (sd 0), .ref (sd 1), .ref (sd 2), .ref (sd 3), .ref (sd 4), .ref (sd 5), .ref (sd 6), .int s_size, .int s_copier, .int s_copyLeft, .int s_tick, .int s_seed, .int s_dropped])), (sd 0, .inl (cyI, 6, .inl s_row)), (sd 1, .inl (cyI, 8, .inl s_has)), (sd 2, .inl (cyI, 8, .inl s_clean)), (sd 5, .inl (cyI, 41, .inl s_ks)), (hX, .inr (6, [.ref (xd 0), .int x_tapeLength, .ref hp, .ref hd, .ref hR0, .ref hu, .ref (xd 6), .int x_at, .int x_top, .ref hs, .ref hT, .ref (xd 11), .ref (xd 12), .ref (xd 13), .int x_lyingCount, .ref (xd 15), .int x_fewest, .ref hg, .ref (xd 18), .int x_time])), (hp, .inr (1, [.ref (pd 0), .ref (pd 1), .ref (pd 2), .ref hf, .int p_mC, .int p_nC, .int p_kC, .int p_units, .int p_copy, .int p_loss, .int p_draw]))] H := hP
  have hD : va_D A [(hs, .inr (5, [.ref (sd 0), .ref (sd 1), .ref (sd 2), .ref (sd 3), .ref (sd 4), .ref (sd 5), .ref (sd 6), .int s_size, .int s_copier, .int s_copyLeft, .int s_tick, .int s_seed, .int s_dropped])), (sd 0, .inl (cyI, 6, .inl s_row)), (sd 1, .inl (cyI, 8, .inl s_has)), (sd 2, .inl (cyI, 8, .inl s_clean)), (sd 5, .inl (cyI, 41, .inl s_ks)), (hX, .inr (6, [.ref (xd 0), .int x_tapeLength, .ref hp, .ref hd, .ref hR0, .ref hu, .ref (xd 6), .int x_at, .int x_top, .ref hs, .ref hT, .ref (xd 11), .ref (xd 12), .ref (xd 13), .int x_lyingCount, .ref (xd 15), .int x_fewest, .ref hg, .ref (xd 18), .int x_time])), (hp, .inr (1, [.ref (pd 0), .ref (pd 1), .ref (pd 2), .ref hf, .int p_mC, .int p_nC, .int p_kC, .int p_units, .int p_copy, .int p_loss, .int p_draw]))] := hD
  rcases b17606 with ⟨rfl, b17607, b17608, b17609⟩ | rfl
  · skip
    refine lv_if_ne (tgt := 10) hx hb dX6_askers_5 (by decide) (fun _ => ?_) (fun c17610 => absurd c17610 (by decide))
    refine lv_iconst (v := 0) hx hb dX6_askers_10 (by decide) ?_
    refine lv_istore_n (lv' := [(2, .int 0), (0, .ref hX), (1, .int x1)]) hx hb dX6_askers_11 rfl hl (by decide) rfl (fun ls hl => ?_)
    refine lv_iconst (v := 0) hx hb dX6_askers_12 (by decide) ?_
    refine lv_istore_n (lv' := [(3, .int 0), (2, .int 0), (0, .ref hX), (1, .int x1)]) hx hb dX6_askers_13 rfl hl (by decide) rfl (fun ls hl => ?_)
    refine w_gen (fun H locs ls hP hS hl => ?_) hP hS hl
    obtain ⟨v17611, v17612, hl2, hP2, hD2, b17613, b17614⟩ : ∃ (v17611 : Int32) (v17612 : Int32), lv_has ls 5 [(3, .int v17612), (2, .int v17611), (0, .ref hX), (1, .int x1)] ∧ va_P (dC, dI) vwCl [(hs, .inr (5, [.ref (sd 0), .ref (sd 1), .ref (sd 2), .ref (sd 3), .ref (sd 4), .ref (sd 5), .ref (sd 6), .int s_size, .int s_copier, .int s_copyLeft, .int s_tick, .int s_seed, .int s_dropped])), (sd 0, .inl (cyI, 6, .inl s_row)), (sd 1, .inl (cyI, 8, .inl s_has)), (sd 2, .inl (cyI, 8, .inl s_clean)), (sd 5, .inl (cyI, 41, .inl s_ks)), (hX, .inr (6, [.ref (xd 0), .int x_tapeLength, .ref hp, .ref hd, .ref hR0, .ref hu, .ref (xd 6), .int x_at, .int x_top, .ref hs, .ref hT, .ref (xd 11), .ref (xd 12), .ref (xd 13), .int x_lyingCount, .ref (xd 15), .int x_fewest, .ref hg, .ref (xd 18), .int x_time])), (hp, .inr (1, [.ref (pd 0), .ref (pd 1), .ref (pd 2), .ref hf, .int p_mC, .int p_nC, .int p_kC, .int p_units, .int p_copy, .int p_loss, .int p_draw]))] H ∧ va_D A [(hs, .inr (5, [.ref (sd 0), .ref (sd 1), .ref (sd 2), .ref (sd 3), .ref (sd 4), .ref (sd 5), .ref (sd 6), .int s_size, .int s_copier, .int s_copyLeft, .int s_tick, .int s_seed, .int s_dropped])), (sd 0, .inl (cyI, 6, .inl s_row)), (sd 1, .inl (cyI, 8, .inl s_has)), (sd 2, .inl (cyI, 8, .inl s_clean)), (sd 5, .inl (cyI, 41, .inl s_ks)), (hX, .inr (6, [.ref (xd 0), .int x_tapeLength, .ref hp, .ref hd, .ref hR0, .ref hu, .ref (xd 6), .int x_at, .int x_top, .ref hs, .ref hT, .ref (xd 11), .ref (xd 12), .ref (xd 13), .int x_lyingCount, .ref (xd 15), .int x_fewest, .ref hg, .ref (xd 18), .int x_time])), (hp, .inr (1, [.ref (pd 0), .ref (pd 1), .ref (pd 2), .ref hf, .int p_mC, .int p_nC, .int p_kC, .int p_units, .int p_copy, .int p_loss, .int p_draw]))] ∧ (0 ≤ v17612.toInt) ∧ (v17612.toInt ≤ 6) := ⟨(0 : Int32), (0 : Int32), hl, hP, hD, by first | assumption | omega, by first | assumption | omega⟩
    clear hP hl
    have hP := hP2
    have hD := hD2
    have hl := hl2
    clear hP2 hD2 hl2
    obtain ⟨n17615, hn17615⟩ : ∃ n : Nat, 6 - v17612.toInt < (n : Int) := ⟨(6 - v17612.toInt).toNat + 1, by omega⟩
    induction n17615 generalizing v17611 v17612 H locs ls with
    | zero => exfalso; omega
    | succ n17615 ih17616 =>
      refine lv_iload_n hx hb dX6_askers_14 rfl (lv_at hl 0 rfl) ?_
      refine lv_aload_n hx hb dX6_askers_15 rfl (lv_at hl 2 rfl) ?_
      refine va_get (D := (dC, dI)) (ci := 6) (v := .ref hs) (C := RX6) (T := TX6) (N := 20) hx hb hts hi6 hown hK hP 5 rfl rfl 9 (by decide) (hts _ (ow_m (k := 4) rfl)) (fun _ h9 => h9) rfl dX6_askers_16 ?_
      refine va_get (D := (dC, dI)) (ci := 5) (v := .int s_size) (C := RX5) (T := TX5) (N := 13) hx hb hts hi5 hown hK hP 0 rfl rfl 7 (by decide) (hts _ (ow_m (k := 5) rfl)) (fun _ h9 => h9) rfl dX6_askers_19 ?_
      refine lv_icmp_ge (tgt := 62) hx hb dX6_askers_22 (by decide) (fun c17617 => ?_) (fun c17617 => ?_)
      · have c17617 := i_le (a := s_size.toInt) (b := v17612.toInt) c17617 rfl rfl
        refine lv_iload_n hx hb dX6_askers_62 rfl (lv_at hl 1 rfl) ?_
        exact W.iret (v := v17611) hx hb hr (fun t ht hW => ⟨⟨v17611, (), rfl, trivial, cE.of ht hP hD [5, 6, 0, 1, 2, 3, 4] (by decide) rfl⟩, hS.F ht⟩) hS.2.2 dX6_askers_63
      · have c17617 := i_nle (a := s_size.toInt) (b := v17612.toInt) c17617 rfl rfl
        refine lv_aload_n hx hb dX6_askers_25 rfl (lv_at hl 2 rfl) ?_
        refine va_get (D := (dC, dI)) (ci := 6) (v := .ref hs) (C := RX6) (T := TX6) (N := 20) hx hb hts hi6 hown hK hP 5 rfl rfl 9 (by decide) (hts _ (ow_m (k := 4) rfl)) (fun _ h9 => h9) rfl dX6_askers_26 ?_
        refine va_get (D := (dC, dI)) (ci := 5) (v := .ref (sd 0)) (C := RX5) (T := TX5) (N := 13) hx hb hts hi5 hown hK hP 0 rfl rfl 0 (by decide) (hts _ (ow_m (k := 6) rfl)) (fun _ h9 => h9) rfl dX6_askers_29 ?_
        refine lv_iload_n hx hb dX6_askers_32 rfl (lv_at hl 0 rfl) ?_
        refine va_iald hx hb hK hP 1 1 rfl rfl (vp_i rfl (by omega) (by omega)) dX6_askers_33 ?_
        refine lv_topi (fun z17618 ez17618 => ?_)
        have tz17618 := i0_s_row.at (x := v17612.toInt) ez17618 rfl (by omega) (by omega)
        refine lv_istore (lv' := [(4, .int z17618), (3, .int v17612), (2, .int v17611), (0, .ref hX), (1, .int x1)]) hx hb dX6_askers_34 hl (by decide) rfl (fun ls hl => ?_)
        refine lv_aload_n hx hb dX6_askers_36 rfl (lv_at hl 3 rfl) ?_
        refine va_get (D := (dC, dI)) (ci := 6) (v := .ref hs) (C := RX6) (T := TX6) (N := 20) hx hb hts hi6 hown hK hP 5 rfl rfl 9 (by decide) (hts _ (ow_m (k := 4) rfl)) (fun _ h9 => h9) rfl dX6_askers_37 ?_
        refine lv_iload hx hb dX6_askers_40 (lv_at hl 0 rfl) ?_
        refine lv_iload_n hx hb dX6_askers_42 rfl (lv_at hl 4 rfl) ?_
        refine gf_i (wr := [(sd 0, .inl (cyI, 6, .inl s_row)), (hX, .inr (6, [.ref (xd 0), .int x_tapeLength, .ref hp, .ref hd, .ref hR0, .ref hu, .ref (xd 6), .int x_at, .int x_top, .ref hs, .ref hT, .ref (xd 11), .ref (xd 12), .ref (xd 13), .int x_lyingCount, .ref (xd 15), .int x_fewest, .ref hg, .ref (xd 18), .int x_time])), (hp, .inr (1, [.ref (pd 0), .ref (pd 1), .ref (pd 2), .ref hf, .int p_mC, .int p_nC, .int p_kC, .int p_units, .int p_copy, .int p_loss, .int p_draw]))]) (va_runV (As := [.int z17618, .int x1]) (rest := []) hfix (k_St_dirtyOf l dC dI cyB cyI cyJ cyZ cyO hs sd s_has s_clean s_ks s_size s_copier s_copyLeft s_tick s_seed s_dropped z17618 x1 _ (by first | omega | assumption) (by first | omega | assumption) (by first | omega | assumption) (by first | omega | assumption) (by first | omega | assumption) (by first | omega | assumption) i0_s_has i0_s_clean (by first | omega | assumption) (by first | omega | assumption)) (cwV 2 hts (gi_V (ow_m (k := 7) rfl) (ow_m (k := 8) rfl) (ow_m (k := 9) rfl) (ow_m (k := 10) rfl) (sb_c (sb_r sb_l)) gd_k_St_dirtyOf) rfl rfl rfl (by decide +kernel) ⟨Nat.le_of_ble_eq_true rfl, Nat.le_of_ble_eq_true rfl⟩) (g_preV hKN hP hD [0, 2, 3, 4] rfl (by decide) 0 5 rfl rfl) rfl rfl hl.1 rfl (lv_room (Nat.le_of_ble_eq_true rfl)) dX6_askers_43 ⟨Nat.le_of_ble_eq_true rfl, Nat.le_of_ble_eq_true rfl⟩) hP hD hS hA [0, 2, 3, 4] [1, 5, 6] rfl rfl (by decide) (by decide) (fun r17619 u17620 H locs qu17620 hP hD hS => ?_)
        have hP : va_P (dC, dI) vwCl [(sd 0, .inl (cyI, 6, .inl s_row)), (hX, .inr (6, [.ref (xd 0), .int x_tapeLength, .ref hp, .ref hd, .ref hR0, .ref hu, .ref (xd 6), .int x_at, .int x_top, .ref hs, .ref hT, .ref (xd 11), .ref (xd 12), .ref (xd 13), .int x_lyingCount, .ref (xd 15), .int x_fewest, .ref hg, .ref (xd 18), .int x_time])), (hp, .inr (1, [.ref (pd 0), .ref (pd 1), .ref (pd 2), .ref hf, .int p_mC, .int p_nC, .int p_kC, .int p_units, .int p_copy, .int p_loss, .int p_draw])), (hs, .inr (5, [.ref (sd 0), .ref (sd 1), .ref (sd 2), .ref (sd 3), .ref (sd 4), .ref (sd 5), .ref (sd 6), .int s_size, .int s_copier, .int s_copyLeft, .int s_tick, .int s_seed, .int s_dropped])), (sd 1, .inl (cyI, 8, .inl s_has)), (sd 2, .inl (cyI, 8, .inl s_clean)), (sd 5, .inl (cyI, 41, .inl s_ks))] H := hP
        have hD : va_D A [(sd 0, .inl (cyI, 6, .inl s_row)), (hX, .inr (6, [.ref (xd 0), .int x_tapeLength, .ref hp, .ref hd, .ref hR0, .ref hu, .ref (xd 6), .int x_at, .int x_top, .ref hs, .ref hT, .ref (xd 11), .ref (xd 12), .ref (xd 13), .int x_lyingCount, .ref (xd 15), .int x_fewest, .ref hg, .ref (xd 18), .int x_time])), (hp, .inr (1, [.ref (pd 0), .ref (pd 1), .ref (pd 2), .ref hf, .int p_mC, .int p_nC, .int p_kC, .int p_units, .int p_copy, .int p_loss, .int p_draw])), (hs, .inr (5, [.ref (sd 0), .ref (sd 1), .ref (sd 2), .ref (sd 3), .ref (sd 4), .ref (sd 5), .ref (sd 6), .int s_size, .int s_copier, .int s_copyLeft, .int s_tick, .int s_seed, .int s_dropped])), (sd 1, .inl (cyI, 8, .inl s_has)), (sd 2, .inl (cyI, 8, .inl s_clean)), (sd 5, .inl (cyI, 41, .inl s_ks))] := hD
        refine lv_if_le (tgt := 56) hx hb dX6_askers_46 (by decide) (fun c17621 => ?_) (fun c17621 => ?_)
        · have c17621 := i_le (a := r17619.toInt) (b := 0) c17621 rfl (by decide)
          obtain ⟨z17622, ez17622⟩ : ∃ y : Int32, y = v17612 + 1 := ⟨_, rfl⟩
          have tz17622 := ti_add (a := v17612.toInt) (b := 1) ez17622 rfl (by decide) (by omega) (by omega)
          refine lv_iinc (v := z17622) (lv' := [(3, .int z17622), (4, .int z17618), (2, .int v17611), (0, .ref hX), (1, .int x1)]) hx hb dX6_askers_56 hl (k := 1) rfl (by rw [ez17622]; rfl) (by decide) rfl (fun ls hl => ?_)
          refine lv_goto (tgt := 14) hx hb dX6_askers_59 (by decide) ?_
          have hl := lv_sub (l' := [(3, .int z17622), (2, .int v17611), (0, .ref hX), (1, .int x1)]) hl [0, 2, 3, 4] rfl
          have hP : va_P (dC, dI) vwCl [(hs, .inr (5, [.ref (sd 0), .ref (sd 1), .ref (sd 2), .ref (sd 3), .ref (sd 4), .ref (sd 5), .ref (sd 6), .int s_size, .int s_copier, .int s_copyLeft, .int s_tick, .int s_seed, .int s_dropped])), (sd 0, .inl (cyI, 6, .inl s_row)), (sd 1, .inl (cyI, 8, .inl s_has)), (sd 2, .inl (cyI, 8, .inl s_clean)), (sd 5, .inl (cyI, 41, .inl s_ks)), (hX, .inr (6, [.ref (xd 0), .int x_tapeLength, .ref hp, .ref hd, .ref hR0, .ref hu, .ref (xd 6), .int x_at, .int x_top, .ref hs, .ref hT, .ref (xd 11), .ref (xd 12), .ref (xd 13), .int x_lyingCount, .ref (xd 15), .int x_fewest, .ref hg, .ref (xd 18), .int x_time])), (hp, .inr (1, [.ref (pd 0), .ref (pd 1), .ref (pd 2), .ref hf, .int p_mC, .int p_nC, .int p_kC, .int p_units, .int p_copy, .int p_loss, .int p_draw]))] H := g_sub (isC := [3, 0, 4, 5, 6, 1, 2]) hP rfl
          have hD : va_D A [(hs, .inr (5, [.ref (sd 0), .ref (sd 1), .ref (sd 2), .ref (sd 3), .ref (sd 4), .ref (sd 5), .ref (sd 6), .int s_size, .int s_copier, .int s_copyLeft, .int s_tick, .int s_seed, .int s_dropped])), (sd 0, .inl (cyI, 6, .inl s_row)), (sd 1, .inl (cyI, 8, .inl s_has)), (sd 2, .inl (cyI, 8, .inl s_clean)), (sd 5, .inl (cyI, 41, .inl s_ks)), (hX, .inr (6, [.ref (xd 0), .int x_tapeLength, .ref hp, .ref hd, .ref hR0, .ref hu, .ref (xd 6), .int x_at, .int x_top, .ref hs, .ref hT, .ref (xd 11), .ref (xd 12), .ref (xd 13), .int x_lyingCount, .ref (xd 15), .int x_fewest, .ref hg, .ref (xd 18), .int x_time])), (hp, .inr (1, [.ref (pd 0), .ref (pd 1), .ref (pd 2), .ref hf, .int p_mC, .int p_nC, .int p_kC, .int p_units, .int p_copy, .int p_loss, .int p_draw]))] := hD.sub [3, 0, 4, 5, 6, 1, 2] (by decide) rfl
          apply ih17616 (v17611 := v17611) (v17612 := z17622) (H := H) (locs := locs) (ls := ls) <;> first | assumption | omega
        · have c17621 := i_nle (a := r17619.toInt) (b := 0) c17621 rfl (by decide)
          refine lv_iload_n hx hb dX6_askers_49 rfl (lv_at hl 2 rfl) ?_
          refine lv_iconst (v := 1) hx hb dX6_askers_50 (by decide) ?_
          refine lv_iload hx hb dX6_askers_51 (lv_at hl 0 rfl) ?_
          refine lv_ishl hx hb dX6_askers_53 ?_
          refine lv_topi (fun z17623 ez17623 => ?_)
          refine lv_ior hx hb dX6_askers_54 ?_
          refine lv_topi (fun z17624 ez17624 => ?_)
          refine lv_istore_n (lv' := [(2, .int z17624), (4, .int z17618), (3, .int v17612), (0, .ref hX), (1, .int x1)]) hx hb dX6_askers_55 rfl hl (by decide) rfl (fun ls hl => ?_)
          obtain ⟨z17625, ez17625⟩ : ∃ y : Int32, y = v17612 + 1 := ⟨_, rfl⟩
          have tz17625 := ti_add (a := v17612.toInt) (b := 1) ez17625 rfl (by decide) (by omega) (by omega)
          refine lv_iinc (v := z17625) (lv' := [(3, .int z17625), (2, .int z17624), (4, .int z17618), (0, .ref hX), (1, .int x1)]) hx hb dX6_askers_56 hl (k := 2) rfl (by rw [ez17625]; rfl) (by decide) rfl (fun ls hl => ?_)
          refine lv_goto (tgt := 14) hx hb dX6_askers_59 (by decide) ?_
          have hl := lv_sub (l' := [(3, .int z17625), (2, .int z17624), (0, .ref hX), (1, .int x1)]) hl [0, 1, 3, 4] rfl
          have hP : va_P (dC, dI) vwCl [(hs, .inr (5, [.ref (sd 0), .ref (sd 1), .ref (sd 2), .ref (sd 3), .ref (sd 4), .ref (sd 5), .ref (sd 6), .int s_size, .int s_copier, .int s_copyLeft, .int s_tick, .int s_seed, .int s_dropped])), (sd 0, .inl (cyI, 6, .inl s_row)), (sd 1, .inl (cyI, 8, .inl s_has)), (sd 2, .inl (cyI, 8, .inl s_clean)), (sd 5, .inl (cyI, 41, .inl s_ks)), (hX, .inr (6, [.ref (xd 0), .int x_tapeLength, .ref hp, .ref hd, .ref hR0, .ref hu, .ref (xd 6), .int x_at, .int x_top, .ref hs, .ref hT, .ref (xd 11), .ref (xd 12), .ref (xd 13), .int x_lyingCount, .ref (xd 15), .int x_fewest, .ref hg, .ref (xd 18), .int x_time])), (hp, .inr (1, [.ref (pd 0), .ref (pd 1), .ref (pd 2), .ref hf, .int p_mC, .int p_nC, .int p_kC, .int p_units, .int p_copy, .int p_loss, .int p_draw]))] H := g_sub (isC := [3, 0, 4, 5, 6, 1, 2]) hP rfl
          have hD : va_D A [(hs, .inr (5, [.ref (sd 0), .ref (sd 1), .ref (sd 2), .ref (sd 3), .ref (sd 4), .ref (sd 5), .ref (sd 6), .int s_size, .int s_copier, .int s_copyLeft, .int s_tick, .int s_seed, .int s_dropped])), (sd 0, .inl (cyI, 6, .inl s_row)), (sd 1, .inl (cyI, 8, .inl s_has)), (sd 2, .inl (cyI, 8, .inl s_clean)), (sd 5, .inl (cyI, 41, .inl s_ks)), (hX, .inr (6, [.ref (xd 0), .int x_tapeLength, .ref hp, .ref hd, .ref hR0, .ref hu, .ref (xd 6), .int x_at, .int x_top, .ref hs, .ref hT, .ref (xd 11), .ref (xd 12), .ref (xd 13), .int x_lyingCount, .ref (xd 15), .int x_fewest, .ref hg, .ref (xd 18), .int x_time])), (hp, .inr (1, [.ref (pd 0), .ref (pd 1), .ref (pd 2), .ref hf, .int p_mC, .int p_nC, .int p_kC, .int p_units, .int p_copy, .int p_loss, .int p_draw]))] := hD.sub [3, 0, 4, 5, 6, 1, 2] (by decide) rfl
          apply ih17616 (v17611 := z17624) (v17612 := z17625) (H := H) (locs := locs) (ls := ls) <;> first | assumption | omega
  · skip
    refine lv_if_ne (tgt := 10) hx hb dX6_askers_5 (by decide) (fun c17626 => absurd (by decide) c17626) (fun _ => ?_)
    refine lv_iconst (v := (-1)) hx hb dX6_askers_8 (by decide) ?_
    exact W.iret (v := (-1)) hx hb hr (fun t ht hW => ⟨⟨(-1), (), rfl, trivial, cE.of ht hP hD [5, 6, 0, 1, 2, 3, 4] (by decide) rfl⟩, hS.F ht⟩) hS.2.2 dX6_askers_9
def wo_k_X_stale : List Cond := [.methodLink RX6 215 yX6_isKey, .instanceMethod yX6_isKey, .selects RX6 yX6_isKey yX6_isKey, .initialized RX6, .fieldLink RX6 110 "ReplicaChain" "now" "LReplicaChain$State;", .fieldLink RX6 157 "ReplicaChain$State" "size" "I", .fieldLink RX6 160 "ReplicaChain$State" "row" "[I", .fieldLink RX6 173 "ReplicaChain$State" "clean" "[I", .methodLink RX6 255 yX5_valueUpTo, .instanceMethod yX5_valueUpTo, .selects RX5 yX5_valueUpTo yX5_valueUpTo, .initialized RX5]
def wq_k_X_stale : List Cond := .code yX6_stale cX6_stale 6 (some .int) :: (wo_k_X_stale ++ (wq_k_X_isKey ++ (wq_k_St_valueUpTo ++ (wsX50 ++ (wsX60 ++ [])))))
theorem gd_k_X_stale : Gd wq_k_X_stale := gd_c (gd_a (gd_o (by decide +kernel)) (gd_a gd_k_X_isKey (gd_a gd_k_St_valueUpTo (gd_a gd_u (gd_a gd_u gd_0)))))
abbrev wc_k_X_stale (cyB cyI cyJ cyZ cyO : ClassId) (hX : Nat) (xd : Nat → Nat) (x_tapeLength : Int32) (x_at : Int32) (x_top : Int32) (x_lyingCount : Int32) (x_fewest : Int32) (x_time : Int32) (hp : Nat) (pd : Nat → Nat) (p_mC : Int32) (p_nC : Int32) (p_kC : Int32) (p_units : Int32) (p_copy : Int32) (p_loss : Int32) (p_draw : Int32) (hs : Nat) (sd : Nat → Nat) (s_row : Nat → Int32) (s_clean : Nat → Int32) (s_ks : Nat → Int32) (s_vs : Nat → Int32) (s_size : Int32) (s_copier : Int32) (s_copyLeft : Int32) (s_tick : Int32) (s_seed : Int32) (s_dropped : Int32) (x1 : Int32) (hd : Nat) (hR0 : Nat) (hu : Nat) (hT : Nat) (hg : Nat) (hf : Nat) : va_W := [(hX, .inr (6, [.ref (xd 0), .int x_tapeLength, .ref hp, .ref hd, .ref hR0, .ref hu, .ref (xd 6), .int x_at, .int x_top, .ref hs, .ref hT, .ref (xd 11), .ref (xd 12), .ref (xd 13), .int x_lyingCount, .ref (xd 15), .int x_fewest, .ref hg, .ref (xd 18), .int x_time])), (hp, .inr (1, [.ref (pd 0), .ref (pd 1), .ref (pd 2), .ref hf, .int p_mC, .int p_nC, .int p_kC, .int p_units, .int p_copy, .int p_loss, .int p_draw])), (hs, .inr (5, [.ref (sd 0), .ref (sd 1), .ref (sd 2), .ref (sd 3), .ref (sd 4), .ref (sd 5), .ref (sd 6), .int s_size, .int s_copier, .int s_copyLeft, .int s_tick, .int s_seed, .int s_dropped])), (sd 0, .inl (cyI, 6, .inl s_row)), (sd 2, .inl (cyI, 8, .inl s_clean)), (sd 5, .inl (cyI, 41, .inl s_ks)), (sd 6, .inl (cyI, 41, .inl s_vs))]
set_option maxHeartbeats 4000000 in
set_option maxRecDepth 100000 in
theorem k_X_stale (l : Launch) (dC : Nat → ClassId) (dI : Nat → Nat → Nat) (cyB cyI cyJ cyZ cyO : ClassId) (hX : Nat) (xd : Nat → Nat) (x_tapeLength : Int32) (x_at : Int32) (x_top : Int32) (x_lyingCount : Int32) (x_fewest : Int32) (x_time : Int32) (hp : Nat) (pd : Nat → Nat) (p_mC : Int32) (p_nC : Int32) (p_kC : Int32) (p_units : Int32) (p_copy : Int32) (p_loss : Int32) (p_draw : Int32) (hs : Nat) (sd : Nat → Nat) (s_row : Nat → Int32) (s_clean : Nat → Int32) (s_ks : Nat → Int32) (s_vs : Nat → Int32) (s_size : Int32) (s_copier : Int32) (s_copyLeft : Int32) (s_tick : Int32) (s_seed : Int32) (s_dropped : Int32) (x1 : Int32) (hd : Nat) (hR0 : Nat) (hu : Nat) (hT : Nat) (hg : Nat) (hf : Nat) (sz : Nat) (l_x_tapeLength : 0 ≤ x_tapeLength.toInt) (u_x_tapeLength : x_tapeLength.toInt ≤ 1600) (l_x_at : 0 ≤ x_at.toInt) (u_x_at : x_at.toInt ≤ 40) (l_x_top : 0 ≤ x_top.toInt) (u_x_top : x_top.toInt ≤ 40) (l_x_lyingCount : 0 ≤ x_lyingCount.toInt) (u_x_lyingCount : x_lyingCount.toInt ≤ 6) (l_x_time : 0 ≤ x_time.toInt) (u_x_time : x_time.toInt ≤ 100000) (l_p_mC : 0 ≤ p_mC.toInt) (u_p_mC : p_mC.toInt ≤ 6) (l_p_nC : 0 ≤ p_nC.toInt) (u_p_nC : p_nC.toInt ≤ 8) (l_p_kC : 0 ≤ p_kC.toInt) (u_p_kC : p_kC.toInt ≤ 4) (l_p_draw : 0 ≤ p_draw.toInt) (u_p_draw : p_draw.toInt ≤ 999) (l_s_size : 0 ≤ s_size.toInt) (u_s_size : s_size.toInt ≤ 6) (l_s_copier : -1 ≤ s_copier.toInt) (u_s_copier : s_copier.toInt ≤ 7) (l_s_seed : 0 ≤ s_seed.toInt) (u_s_seed : s_seed.toInt ≤ 999) (i0_s_row : In2 s_row 0 6 (0) (7)) (i0_s_clean : In2 s_clean 0 8 (0) (40)) : Met l yX6_stale wq_k_X_stale ({ frames := 3, cells := 0, slots := 0, locals := 70 }) (va_Pc [.ref hX, .int x1] (cB (dC, dI) (kT cyB cyI cyJ cyZ cyO) (wc_k_X_stale cyB cyI cyJ cyZ cyO hX xd x_tapeLength x_at x_top x_lyingCount x_fewest x_time hp pd p_mC p_nC p_kC p_units p_copy p_loss p_draw hs sd s_row s_clean s_ks s_vs s_size s_copier s_copyLeft s_tick s_seed s_dropped x1 hd hR0 hu hT hg hf) sz)) (va_Qi (fun (r : Int32) (u : Unit) => True) (fun (u : Unit) t => cE (dC, dI) (va_A (wc_k_X_stale cyB cyI cyJ cyZ cyO hX xd x_tapeLength x_at x_top x_lyingCount x_fewest x_time hp pd p_mC p_nC p_kC p_units p_copy p_loss p_draw hs sd s_row s_clean s_ks s_vs s_size s_copier s_copyLeft s_tick s_seed s_dropped x1 hd hR0 hu hT hg hf) sz) ([(hX, .inr (6, [.ref (xd 0), .int x_tapeLength, .ref hp, .ref hd, .ref hR0, .ref hu, .ref (xd 6), .int x_at, .int x_top, .ref hs, .ref hT, .ref (xd 11), .ref (xd 12), .ref (xd 13), .int x_lyingCount, .ref (xd 15), .int x_fewest, .ref hg, .ref (xd 18), .int x_time])), (hp, .inr (1, [.ref (pd 0), .ref (pd 1), .ref (pd 2), .ref hf, .int p_mC, .int p_nC, .int p_kC, .int p_units, .int p_copy, .int p_loss, .int p_draw])), (hs, .inr (5, [.ref (sd 0), .ref (sd 1), .ref (sd 2), .ref (sd 3), .ref (sd 4), .ref (sd 5), .ref (sd 6), .int s_size, .int s_copier, .int s_copyLeft, .int s_tick, .int s_seed, .int s_dropped])), (sd 0, .inl (cyI, 6, .inl s_row)), (sd 2, .inl (cyI, 8, .inl s_clean)), (sd 5, .inl (cyI, 41, .inl s_ks)), (sd 6, .inl (cyI, 41, .inl s_vs))]) t.heap) (va_A (wc_k_X_stale cyB cyI cyJ cyZ cyO hX xd x_tapeLength x_at x_top x_lyingCount x_fewest x_time hp pd p_mC p_nC p_kC p_units p_copy p_loss p_draw hs sd s_row s_clean s_ks s_vs s_size s_copier s_copyLeft s_tick s_seed s_dropped x1 hd hR0 hu hT hg hf) sz)) 0 0 (va_A (wc_k_X_stale cyB cyI cyJ cyZ cyO hX xd x_tapeLength x_at x_top x_lyingCount x_fewest x_time hp pd p_mC p_nC p_kC p_units p_copy p_loss p_draw hs sd s_row s_clean s_ks s_vs s_size s_copier s_copyLeft s_tick s_seed s_dropped x1 hd hR0 hu hT hg hf) sz) := by
  refine Met.ofW (cc := cX6_stale) (maxL := 6) (ret := (some .int)) (by decide) rfl ?_
  intro p e s m args below meth c s₁ B hml hv
  obtain ⟨rfl, hsz, hP, hKN, hD0⟩ := hv
  have hx := B.exec
  have hb := B.bytes
  have hr := B.returns
  have hts := atoms_spec (ws := wq_k_X_stale) B.pre
  have hown : s.vm.findClass RX6 = some m.cls := findClass_of_methodNamed B.named
  have hlocks := B.notSynchronized
  have hK := hKN.1
  have hfix : CallFix p m c cX6_stale 6 s [.ref hX, .int x1].toArray wq_k_X_stale RX6 := ⟨hx, hb, hml, hown, hts⟩
  have hi5 : ∀ w ∈ wsX50, w ∈ wq_k_X_stale := (sb_c (sb_r (sb_r sb_l)))
  have hi6 : ∀ w ∈ wsX60, w ∈ wq_k_X_stale := (sb_c (sb_r (sb_r (sb_r sb_l))))
  subst hsz
  have hD := hD0.self (sz := s.heap.size)
  generalize hAe : va_A (wc_k_X_stale cyB cyI cyJ cyZ cyO hX xd x_tapeLength x_at x_top x_lyingCount x_fewest x_time hp pd p_mC p_nC p_kC p_units p_copy p_loss p_draw hs sd s_row s_clean s_ks s_vs s_size s_copier s_copyLeft s_tick s_seed s_dropped x1 hd hR0 hu hT hg hf) s.heap.size = A at hD ⊢
  have hA : ∀ q : Nat, s.heap.size ≤ q → A q := fun q h => by rw [← hAe]; exact Or.inr h
  have hS : va_S A s.heap s.heap [] := va_S.rf
  have hl := lv_entry ([.ref hX, .int x1]) (n := 6) (Nat.le_of_ble_eq_true rfl)
  rw [lg_entry_eq]
  generalize (lg_sl ([.ref hX, .int x1]) ++ List.replicate (6 - (lg_sl ([.ref hX, .int x1])).length) Slot.unset).toArray = ls at hl ⊢
  have hl : lv_has ls 6 [(0, .ref hX), (1, .int x1)] := hl
  have ck0 : (0 : Int32).toInt = 0 := by decide
  have ck1 : (1 : Int32).toInt = 1 := by decide
  refine lv_aload_n hx hb dX6_stale_0 rfl (lv_at hl 0 rfl) ?_
  refine lv_iload_n hx hb dX6_stale_1 rfl (lv_at hl 1 rfl) ?_
  refine gf_i (wr := [(hs, .inr (5, [.ref (sd 0), .ref (sd 1), .ref (sd 2), .ref (sd 3), .ref (sd 4), .ref (sd 5), .ref (sd 6), .int s_size, .int s_copier, .int s_copyLeft, .int s_tick, .int s_seed, .int s_dropped])), (sd 0, .inl (cyI, 6, .inl s_row)), (sd 2, .inl (cyI, 8, .inl s_clean)), (sd 5, .inl (cyI, 41, .inl s_ks)), (sd 6, .inl (cyI, 41, .inl s_vs))]) (va_runV (As := [.int x1]) (rest := []) hfix (k_X_isKey l dC dI cyB cyI cyJ cyZ cyO hX xd x_tapeLength x_at x_top x_lyingCount x_fewest x_time hp pd p_mC p_nC p_kC p_units p_copy p_loss p_draw x1 hd hR0 hu hs hT hg hf _ (by first | omega | assumption) (by first | omega | assumption) (by first | omega | assumption) (by first | omega | assumption) (by first | omega | assumption) (by first | omega | assumption) (by first | omega | assumption) (by first | omega | assumption) (by first | omega | assumption) (by first | omega | assumption) (by first | omega | assumption) (by first | omega | assumption) (by first | omega | assumption) (by first | omega | assumption) (by first | omega | assumption) (by first | omega | assumption) (by first | omega | assumption) (by first | omega | assumption)) (cwV 1 hts (gi_V (ow_m (k := 0) rfl) (ow_m (k := 1) rfl) (ow_m (k := 2) rfl) (ow_m (k := 3) rfl) (sb_c sb_l) gd_k_X_isKey) rfl rfl rfl (by decide +kernel) ⟨Nat.le_of_ble_eq_true rfl, Nat.le_of_ble_eq_true rfl⟩) (g_preV hKN hP hD [0, 1] rfl (by decide) 0 6 rfl rfl) rfl rfl hl.1 rfl (lv_room (Nat.le_of_ble_eq_true rfl)) dX6_stale_2 ⟨Nat.le_of_ble_eq_true rfl, Nat.le_of_ble_eq_true rfl⟩) hP hD hS hA [0, 1] [2, 3, 4, 5, 6] rfl rfl (by decide) (by decide) (fun r18019 u18020 H locs qu18020 hP hD hS => ?_)
  have b18021 := qu18020
  have hP : va_P (dC, dI) vwCl [(hs, .inr (5, [.ref (sd 0), .ref (sd 1), .ref (sd 2), .ref (sd 3), .ref (sd 4), .ref (sd 5), .ref (sd 6), .int s_size, .int s_copier, .int s_copyLeft, .int s_tick, .int s_seed, .int s_dropped])), (sd 0, .inl (cyI, 6, .inl s_row)), (sd 2, .inl (cyI, 8, .inl s_clean)), (sd 5, .inl (cyI, 41, .inl s_ks)), (sd 6, .inl (cyI, 41, .inl s_vs)), (hX, .inr (6, [.ref (xd 0), .int x_tapeLength, .ref hp, .ref hd, .ref hR0, .ref hu, .ref (xd 6), .int x_at, .int x_top, .ref hs, .ref hT, .ref (xd 11), .ref (xd 12), .ref (xd 13), .int x_lyingCount, .ref (xd 15), .int x_fewest, .ref hg, .ref (xd 18), .int x_time])), (hp, .inr (1, [.ref (pd 0), .ref (pd 1), .ref (pd 2), .ref hf, .int p_mC, .int p_nC, .int p_kC, .int p_units, .int p_copy, .int p_loss, .int p_draw]))] H := hP
  have hD : va_D A [(hs, .inr (5, [.ref (sd 0), .ref (sd 1), .ref (sd 2), .ref (sd 3), .ref (sd 4), .ref (sd 5), .ref (sd 6), .int s_size, .int s_copier, .int s_copyLeft, .int s_tick, .int s_seed, .int s_dropped])), (sd 0, .inl (cyI, 6, .inl s_row)), (sd 2, .inl (cyI, 8, .inl s_clean)), (sd 5, .inl (cyI, 41, .inl s_ks)), (sd 6, .inl (cyI, 41, .inl s_vs)), (hX, .inr (6, [.ref (xd 0), .int x_tapeLength, .ref hp, .ref hd, .ref hR0, .ref hu, .ref (xd 6), .int x_at, .int x_top, .ref hs, .ref hT, .ref (xd 11), .ref (xd 12), .ref (xd 13), .int x_lyingCount, .ref (xd 15), .int x_fewest, .ref hg, .ref (xd 18), .int x_time])), (hp, .inr (1, [.ref (pd 0), .ref (pd 1), .ref (pd 2), .ref hf, .int p_mC, .int p_nC, .int p_kC, .int p_units, .int p_copy, .int p_loss, .int p_draw]))] := hD
  rcases b18021 with ⟨rfl, b18022, b18023, b18024⟩ | rfl
  · skip
    refine lv_if_ne (tgt := 10) hx hb dX6_stale_5 (by decide) (fun _ => ?_) (fun c18025 => absurd c18025 (by decide))
    refine lv_iconst (v := 0) hx hb dX6_stale_10 (by decide) ?_
    refine lv_istore_n (lv' := [(2, .int 0), (0, .ref hX), (1, .int x1)]) hx hb dX6_stale_11 rfl hl (by decide) rfl (fun ls hl => ?_)
    refine lv_iconst (v := 0) hx hb dX6_stale_12 (by decide) ?_
    refine lv_istore_n (lv' := [(3, .int 0), (2, .int 0), (0, .ref hX), (1, .int x1)]) hx hb dX6_stale_13 rfl hl (by decide) rfl (fun ls hl => ?_)
    refine w_gen (fun H locs ls hP hS hl => ?_) hP hS hl
    obtain ⟨v18026, v18027, hl2, hP2, hD2, b18028, b18029⟩ : ∃ (v18026 : Int32) (v18027 : Int32), lv_has ls 6 [(3, .int v18027), (2, .int v18026), (0, .ref hX), (1, .int x1)] ∧ va_P (dC, dI) vwCl [(hs, .inr (5, [.ref (sd 0), .ref (sd 1), .ref (sd 2), .ref (sd 3), .ref (sd 4), .ref (sd 5), .ref (sd 6), .int s_size, .int s_copier, .int s_copyLeft, .int s_tick, .int s_seed, .int s_dropped])), (sd 0, .inl (cyI, 6, .inl s_row)), (sd 2, .inl (cyI, 8, .inl s_clean)), (sd 5, .inl (cyI, 41, .inl s_ks)), (sd 6, .inl (cyI, 41, .inl s_vs)), (hX, .inr (6, [.ref (xd 0), .int x_tapeLength, .ref hp, .ref hd, .ref hR0, .ref hu, .ref (xd 6), .int x_at, .int x_top, .ref hs, .ref hT, .ref (xd 11), .ref (xd 12), .ref (xd 13), .int x_lyingCount, .ref (xd 15), .int x_fewest, .ref hg, .ref (xd 18), .int x_time])), (hp, .inr (1, [.ref (pd 0), .ref (pd 1), .ref (pd 2), .ref hf, .int p_mC, .int p_nC, .int p_kC, .int p_units, .int p_copy, .int p_loss, .int p_draw]))] H ∧ va_D A [(hs, .inr (5, [.ref (sd 0), .ref (sd 1), .ref (sd 2), .ref (sd 3), .ref (sd 4), .ref (sd 5), .ref (sd 6), .int s_size, .int s_copier, .int s_copyLeft, .int s_tick, .int s_seed, .int s_dropped])), (sd 0, .inl (cyI, 6, .inl s_row)), (sd 2, .inl (cyI, 8, .inl s_clean)), (sd 5, .inl (cyI, 41, .inl s_ks)), (sd 6, .inl (cyI, 41, .inl s_vs)), (hX, .inr (6, [.ref (xd 0), .int x_tapeLength, .ref hp, .ref hd, .ref hR0, .ref hu, .ref (xd 6), .int x_at, .int x_top, .ref hs, .ref hT, .ref (xd 11), .ref (xd 12), .ref (xd 13), .int x_lyingCount, .ref (xd 15), .int x_fewest, .ref hg, .ref (xd 18), .int x_time])), (hp, .inr (1, [.ref (pd 0), .ref (pd 1), .ref (pd 2), .ref hf, .int p_mC, .int p_nC, .int p_kC, .int p_units, .int p_copy, .int p_loss, .int p_draw]))] ∧ (0 ≤ v18027.toInt) ∧ (v18027.toInt ≤ 6) := ⟨(0 : Int32), (0 : Int32), hl, hP, hD, by first | assumption | omega, by first | assumption | omega⟩
    clear hP hl
    have hP := hP2
    have hD := hD2
    have hl := hl2
    clear hP2 hD2 hl2
    obtain ⟨n18030, hn18030⟩ : ∃ n : Nat, 6 - v18027.toInt < (n : Int) := ⟨(6 - v18027.toInt).toNat + 1, by omega⟩
    induction n18030 generalizing v18026 v18027 H locs ls with
    | zero => exfalso; omega
    | succ n18030 ih18031 =>
      refine lv_iload_n hx hb dX6_stale_14 rfl (lv_at hl 0 rfl) ?_
      refine lv_aload_n hx hb dX6_stale_15 rfl (lv_at hl 2 rfl) ?_
      refine va_get (D := (dC, dI)) (ci := 6) (v := .ref hs) (C := RX6) (T := TX6) (N := 20) hx hb hts hi6 hown hK hP 5 rfl rfl 9 (by decide) (hts _ (ow_m (k := 4) rfl)) (fun _ h9 => h9) rfl dX6_stale_16 ?_
      refine va_get (D := (dC, dI)) (ci := 5) (v := .int s_size) (C := RX5) (T := TX5) (N := 13) hx hb hts hi5 hown hK hP 0 rfl rfl 7 (by decide) (hts _ (ow_m (k := 5) rfl)) (fun _ h9 => h9) rfl dX6_stale_19 ?_
      refine lv_icmp_ge (tgt := 107) hx hb dX6_stale_22 (by decide) (fun c18032 => ?_) (fun c18032 => ?_)
      · have c18032 := i_le (a := s_size.toInt) (b := v18027.toInt) c18032 rfl rfl
        refine lv_iload_n hx hb dX6_stale_107 rfl (lv_at hl 1 rfl) ?_
        exact W.iret (v := v18026) hx hb hr (fun t ht hW => ⟨⟨v18026, (), rfl, trivial, cE.of ht hP hD [5, 6, 0, 1, 2, 3, 4] (by decide) rfl⟩, hS.F ht⟩) hS.2.2 dX6_stale_108
      · have c18032 := i_nle (a := s_size.toInt) (b := v18027.toInt) c18032 rfl rfl
        refine lv_aload_n hx hb dX6_stale_25 rfl (lv_at hl 2 rfl) ?_
        refine va_get (D := (dC, dI)) (ci := 6) (v := .ref hs) (C := RX6) (T := TX6) (N := 20) hx hb hts hi6 hown hK hP 5 rfl rfl 9 (by decide) (hts _ (ow_m (k := 4) rfl)) (fun _ h9 => h9) rfl dX6_stale_26 ?_
        refine va_get (D := (dC, dI)) (ci := 5) (v := .ref (sd 0)) (C := RX5) (T := TX5) (N := 13) hx hb hts hi5 hown hK hP 0 rfl rfl 0 (by decide) (hts _ (ow_m (k := 6) rfl)) (fun _ h9 => h9) rfl dX6_stale_29 ?_
        refine lv_iload_n hx hb dX6_stale_32 rfl (lv_at hl 0 rfl) ?_
        refine va_iald hx hb hK hP 1 1 rfl rfl (vp_i rfl (by omega) (by omega)) dX6_stale_33 ?_
        refine lv_topi (fun z18033 ez18033 => ?_)
        have tz18033 := i0_s_row.at (x := v18027.toInt) ez18033 rfl (by omega) (by omega)
        refine lv_istore (lv' := [(4, .int z18033), (3, .int v18027), (2, .int v18026), (0, .ref hX), (1, .int x1)]) hx hb dX6_stale_34 hl (by decide) rfl (fun ls hl => ?_)
        refine lv_aload_n hx hb dX6_stale_36 rfl (lv_at hl 3 rfl) ?_
        refine va_get (D := (dC, dI)) (ci := 6) (v := .ref hs) (C := RX6) (T := TX6) (N := 20) hx hb hts hi6 hown hK hP 5 rfl rfl 9 (by decide) (hts _ (ow_m (k := 4) rfl)) (fun _ h9 => h9) rfl dX6_stale_37 ?_
        refine va_get (D := (dC, dI)) (ci := 5) (v := .ref (sd 0)) (C := RX5) (T := TX5) (N := 13) hx hb hts hi5 hown hK hP 0 rfl rfl 0 (by decide) (hts _ (ow_m (k := 6) rfl)) (fun _ h9 => h9) rfl dX6_stale_40 ?_
        refine lv_aload_n hx hb dX6_stale_43 rfl (lv_at hl 3 rfl) ?_
        refine va_get (D := (dC, dI)) (ci := 6) (v := .ref hs) (C := RX6) (T := TX6) (N := 20) hx hb hts hi6 hown hK hP 5 rfl rfl 9 (by decide) (hts _ (ow_m (k := 4) rfl)) (fun _ h9 => h9) rfl dX6_stale_44 ?_
        refine va_get (D := (dC, dI)) (ci := 5) (v := .int s_size) (C := RX5) (T := TX5) (N := 13) hx hb hts hi5 hown hK hP 0 rfl rfl 7 (by decide) (hts _ (ow_m (k := 5) rfl)) (fun _ h9 => h9) rfl dX6_stale_47 ?_
        refine lv_iconst (v := 1) hx hb dX6_stale_50 (by decide) ?_
        refine lv_isub hx hb dX6_stale_51 ?_
        refine lv_topi (fun z18034 ez18034 => ?_)
        have tz18034 := ti_sub (a := s_size.toInt) (b := 1) ez18034 rfl (by decide) (by omega) (by omega)
        refine va_iald hx hb hK hP 1 1 rfl rfl (vp_i rfl (by omega) (by omega)) dX6_stale_52 ?_
        refine lv_topi (fun z18035 ez18035 => ?_)
        have tz18035 := i0_s_row.at (x := z18034.toInt) ez18035 rfl (by omega) (by omega)
        refine lv_istore (lv' := [(5, .int z18035), (4, .int z18033), (3, .int v18027), (2, .int v18026), (0, .ref hX), (1, .int x1)]) hx hb dX6_stale_53 hl (by decide) rfl (fun ls hl => ?_)
        refine lv_aload_n hx hb dX6_stale_55 rfl (lv_at hl 4 rfl) ?_
        refine va_get (D := (dC, dI)) (ci := 6) (v := .ref hs) (C := RX6) (T := TX6) (N := 20) hx hb hts hi6 hown hK hP 5 rfl rfl 9 (by decide) (hts _ (ow_m (k := 4) rfl)) (fun _ h9 => h9) rfl dX6_stale_56 ?_
        refine lv_iload_n hx hb dX6_stale_59 rfl (lv_at hl 5 rfl) ?_
        refine lv_aload_n hx hb dX6_stale_60 rfl (lv_at hl 4 rfl) ?_
        refine va_get (D := (dC, dI)) (ci := 6) (v := .ref hs) (C := RX6) (T := TX6) (N := 20) hx hb hts hi6 hown hK hP 5 rfl rfl 9 (by decide) (hts _ (ow_m (k := 4) rfl)) (fun _ h9 => h9) rfl dX6_stale_61 ?_
        refine va_get (D := (dC, dI)) (ci := 5) (v := .ref (sd 2)) (C := RX5) (T := TX5) (N := 13) hx hb hts hi5 hown hK hP 0 rfl rfl 2 (by decide) (hts _ (ow_m (k := 7) rfl)) (fun _ h9 => h9) rfl dX6_stale_64 ?_
        refine lv_iload hx hb dX6_stale_67 (lv_at hl 1 rfl) ?_
        refine va_iald hx hb hK hP 2 1 rfl rfl (vp_i rfl (by omega) (by omega)) dX6_stale_69 ?_
        refine lv_topi (fun z18036 ez18036 => ?_)
        have tz18036 := i0_s_clean.at (x := z18033.toInt) ez18036 rfl (by omega) (by omega)
        refine gf_i (wr := [(sd 0, .inl (cyI, 6, .inl s_row)), (sd 2, .inl (cyI, 8, .inl s_clean)), (hX, .inr (6, [.ref (xd 0), .int x_tapeLength, .ref hp, .ref hd, .ref hR0, .ref hu, .ref (xd 6), .int x_at, .int x_top, .ref hs, .ref hT, .ref (xd 11), .ref (xd 12), .ref (xd 13), .int x_lyingCount, .ref (xd 15), .int x_fewest, .ref hg, .ref (xd 18), .int x_time])), (hp, .inr (1, [.ref (pd 0), .ref (pd 1), .ref (pd 2), .ref hf, .int p_mC, .int p_nC, .int p_kC, .int p_units, .int p_copy, .int p_loss, .int p_draw]))]) (va_runV (As := [.int x1, .int z18036]) (rest := []) hfix (k_St_valueUpTo l dC dI cyB cyI cyJ cyZ cyO hs sd s_ks s_vs s_size s_copier s_copyLeft s_tick s_seed s_dropped x1 z18036 _ (by first | omega | assumption) (by first | omega | assumption) (by first | omega | assumption) (by first | omega | assumption) (by first | omega | assumption) (by first | omega | assumption)) (cwV 2 hts (gi_V (ow_m (k := 8) rfl) (ow_m (k := 9) rfl) (ow_m (k := 10) rfl) (ow_m (k := 11) rfl) (sb_c (sb_r sb_l)) gd_k_St_valueUpTo) rfl rfl rfl (by decide +kernel) ⟨Nat.le_of_ble_eq_true rfl, Nat.le_of_ble_eq_true rfl⟩) (g_preV hKN hP hD [0, 3, 4] rfl (by decide) 0 5 rfl rfl) rfl rfl hl.1 rfl (lv_room (Nat.le_of_ble_eq_true rfl)) dX6_stale_70 ⟨Nat.le_of_ble_eq_true rfl, Nat.le_of_ble_eq_true rfl⟩) hP hD hS hA [0, 3, 4] [1, 2, 5, 6] rfl rfl (by decide) (by decide) (fun r18037 u18038 H locs qu18038 hP hD hS => ?_)
        have hP : va_P (dC, dI) vwCl [(sd 0, .inl (cyI, 6, .inl s_row)), (sd 2, .inl (cyI, 8, .inl s_clean)), (hX, .inr (6, [.ref (xd 0), .int x_tapeLength, .ref hp, .ref hd, .ref hR0, .ref hu, .ref (xd 6), .int x_at, .int x_top, .ref hs, .ref hT, .ref (xd 11), .ref (xd 12), .ref (xd 13), .int x_lyingCount, .ref (xd 15), .int x_fewest, .ref hg, .ref (xd 18), .int x_time])), (hp, .inr (1, [.ref (pd 0), .ref (pd 1), .ref (pd 2), .ref hf, .int p_mC, .int p_nC, .int p_kC, .int p_units, .int p_copy, .int p_loss, .int p_draw])), (hs, .inr (5, [.ref (sd 0), .ref (sd 1), .ref (sd 2), .ref (sd 3), .ref (sd 4), .ref (sd 5), .ref (sd 6), .int s_size, .int s_copier, .int s_copyLeft, .int s_tick, .int s_seed, .int s_dropped])), (sd 5, .inl (cyI, 41, .inl s_ks)), (sd 6, .inl (cyI, 41, .inl s_vs))] H := hP
        have hD : va_D A [(sd 0, .inl (cyI, 6, .inl s_row)), (sd 2, .inl (cyI, 8, .inl s_clean)), (hX, .inr (6, [.ref (xd 0), .int x_tapeLength, .ref hp, .ref hd, .ref hR0, .ref hu, .ref (xd 6), .int x_at, .int x_top, .ref hs, .ref hT, .ref (xd 11), .ref (xd 12), .ref (xd 13), .int x_lyingCount, .ref (xd 15), .int x_fewest, .ref hg, .ref (xd 18), .int x_time])), (hp, .inr (1, [.ref (pd 0), .ref (pd 1), .ref (pd 2), .ref hf, .int p_mC, .int p_nC, .int p_kC, .int p_units, .int p_copy, .int p_loss, .int p_draw])), (hs, .inr (5, [.ref (sd 0), .ref (sd 1), .ref (sd 2), .ref (sd 3), .ref (sd 4), .ref (sd 5), .ref (sd 6), .int s_size, .int s_copier, .int s_copyLeft, .int s_tick, .int s_seed, .int s_dropped])), (sd 5, .inl (cyI, 41, .inl s_ks)), (sd 6, .inl (cyI, 41, .inl s_vs))] := hD
        refine lv_aload_n hx hb dX6_stale_73 rfl (lv_at hl 4 rfl) ?_
        refine va_get (D := (dC, dI)) (ci := 6) (v := .ref hs) (C := RX6) (T := TX6) (N := 20) hx hb hts hi6 hown hK hP 2 rfl rfl 9 (by decide) (hts _ (ow_m (k := 4) rfl)) (fun _ h9 => h9) rfl dX6_stale_74 ?_
        refine lv_iload_n hx hb dX6_stale_77 rfl (lv_at hl 5 rfl) ?_
        refine lv_aload_n hx hb dX6_stale_78 rfl (lv_at hl 4 rfl) ?_
        refine va_get (D := (dC, dI)) (ci := 6) (v := .ref hs) (C := RX6) (T := TX6) (N := 20) hx hb hts hi6 hown hK hP 2 rfl rfl 9 (by decide) (hts _ (ow_m (k := 4) rfl)) (fun _ h9 => h9) rfl dX6_stale_79 ?_
        refine va_get (D := (dC, dI)) (ci := 5) (v := .ref (sd 2)) (C := RX5) (T := TX5) (N := 13) hx hb hts hi5 hown hK hP 4 rfl rfl 2 (by decide) (hts _ (ow_m (k := 7) rfl)) (fun _ h9 => h9) rfl dX6_stale_82 ?_
        refine lv_iload hx hb dX6_stale_85 (lv_at hl 0 rfl) ?_
        refine va_iald hx hb hK hP 1 1 rfl rfl (vp_i rfl (by omega) (by omega)) dX6_stale_87 ?_
        refine lv_topi (fun z18039 ez18039 => ?_)
        have tz18039 := i0_s_clean.at (x := z18035.toInt) ez18039 rfl (by omega) (by omega)
        refine gf_i (wr := [(sd 0, .inl (cyI, 6, .inl s_row)), (sd 2, .inl (cyI, 8, .inl s_clean)), (hX, .inr (6, [.ref (xd 0), .int x_tapeLength, .ref hp, .ref hd, .ref hR0, .ref hu, .ref (xd 6), .int x_at, .int x_top, .ref hs, .ref hT, .ref (xd 11), .ref (xd 12), .ref (xd 13), .int x_lyingCount, .ref (xd 15), .int x_fewest, .ref hg, .ref (xd 18), .int x_time])), (hp, .inr (1, [.ref (pd 0), .ref (pd 1), .ref (pd 2), .ref hf, .int p_mC, .int p_nC, .int p_kC, .int p_units, .int p_copy, .int p_loss, .int p_draw]))]) (va_runV (As := [.int x1, .int z18039]) (rest := [.int r18037]) hfix (k_St_valueUpTo l dC dI cyB cyI cyJ cyZ cyO hs sd s_ks s_vs s_size s_copier s_copyLeft s_tick s_seed s_dropped x1 z18039 _ (by first | omega | assumption) (by first | omega | assumption) (by first | omega | assumption) (by first | omega | assumption) (by first | omega | assumption) (by first | omega | assumption)) (cwV 2 hts (gi_V (ow_m (k := 8) rfl) (ow_m (k := 9) rfl) (ow_m (k := 10) rfl) (ow_m (k := 11) rfl) (sb_c (sb_r sb_l)) gd_k_St_valueUpTo) rfl rfl rfl (by decide +kernel) ⟨Nat.le_of_ble_eq_true rfl, Nat.le_of_ble_eq_true rfl⟩) (g_preV hKN hP hD [4, 5, 6] rfl (by decide) 0 5 rfl rfl) rfl rfl hl.1 rfl (lv_room (Nat.le_of_ble_eq_true rfl)) dX6_stale_88 ⟨Nat.le_of_ble_eq_true rfl, Nat.le_of_ble_eq_true rfl⟩) hP hD hS hA [4, 5, 6] [0, 1, 2, 3] rfl rfl (by decide) (by decide) (fun r18040 u18041 H locs qu18041 hP hD hS => ?_)
        have hP : va_P (dC, dI) vwCl [(sd 0, .inl (cyI, 6, .inl s_row)), (sd 2, .inl (cyI, 8, .inl s_clean)), (hX, .inr (6, [.ref (xd 0), .int x_tapeLength, .ref hp, .ref hd, .ref hR0, .ref hu, .ref (xd 6), .int x_at, .int x_top, .ref hs, .ref hT, .ref (xd 11), .ref (xd 12), .ref (xd 13), .int x_lyingCount, .ref (xd 15), .int x_fewest, .ref hg, .ref (xd 18), .int x_time])), (hp, .inr (1, [.ref (pd 0), .ref (pd 1), .ref (pd 2), .ref hf, .int p_mC, .int p_nC, .int p_kC, .int p_units, .int p_copy, .int p_loss, .int p_draw])), (hs, .inr (5, [.ref (sd 0), .ref (sd 1), .ref (sd 2), .ref (sd 3), .ref (sd 4), .ref (sd 5), .ref (sd 6), .int s_size, .int s_copier, .int s_copyLeft, .int s_tick, .int s_seed, .int s_dropped])), (sd 5, .inl (cyI, 41, .inl s_ks)), (sd 6, .inl (cyI, 41, .inl s_vs))] H := hP
        have hD : va_D A [(sd 0, .inl (cyI, 6, .inl s_row)), (sd 2, .inl (cyI, 8, .inl s_clean)), (hX, .inr (6, [.ref (xd 0), .int x_tapeLength, .ref hp, .ref hd, .ref hR0, .ref hu, .ref (xd 6), .int x_at, .int x_top, .ref hs, .ref hT, .ref (xd 11), .ref (xd 12), .ref (xd 13), .int x_lyingCount, .ref (xd 15), .int x_fewest, .ref hg, .ref (xd 18), .int x_time])), (hp, .inr (1, [.ref (pd 0), .ref (pd 1), .ref (pd 2), .ref hf, .int p_mC, .int p_nC, .int p_kC, .int p_units, .int p_copy, .int p_loss, .int p_draw])), (hs, .inr (5, [.ref (sd 0), .ref (sd 1), .ref (sd 2), .ref (sd 3), .ref (sd 4), .ref (sd 5), .ref (sd 6), .int s_size, .int s_copier, .int s_copyLeft, .int s_tick, .int s_seed, .int s_dropped])), (sd 5, .inl (cyI, 41, .inl s_ks)), (sd 6, .inl (cyI, 41, .inl s_vs))] := hD
        refine lv_icmp_eq (tgt := 101) hx hb dX6_stale_91 (by decide) (fun c18042 => ?_) (fun c18042 => ?_)
        · have c18042 := i_eq (a := r18037.toInt) (b := r18040.toInt) c18042 rfl rfl
          obtain ⟨z18043, ez18043⟩ : ∃ y : Int32, y = v18027 + 1 := ⟨_, rfl⟩
          have tz18043 := ti_add (a := v18027.toInt) (b := 1) ez18043 rfl (by decide) (by omega) (by omega)
          refine lv_iinc (v := z18043) (lv' := [(3, .int z18043), (5, .int z18035), (4, .int z18033), (2, .int v18026), (0, .ref hX), (1, .int x1)]) hx hb dX6_stale_101 hl (k := 2) rfl (by rw [ez18043]; rfl) (by decide) rfl (fun ls hl => ?_)
          refine lv_goto (tgt := 14) hx hb dX6_stale_104 (by decide) ?_
          have hl := lv_sub (l' := [(3, .int z18043), (2, .int v18026), (0, .ref hX), (1, .int x1)]) hl [0, 3, 4, 5] rfl
          have hP : va_P (dC, dI) vwCl [(hs, .inr (5, [.ref (sd 0), .ref (sd 1), .ref (sd 2), .ref (sd 3), .ref (sd 4), .ref (sd 5), .ref (sd 6), .int s_size, .int s_copier, .int s_copyLeft, .int s_tick, .int s_seed, .int s_dropped])), (sd 0, .inl (cyI, 6, .inl s_row)), (sd 2, .inl (cyI, 8, .inl s_clean)), (sd 5, .inl (cyI, 41, .inl s_ks)), (sd 6, .inl (cyI, 41, .inl s_vs)), (hX, .inr (6, [.ref (xd 0), .int x_tapeLength, .ref hp, .ref hd, .ref hR0, .ref hu, .ref (xd 6), .int x_at, .int x_top, .ref hs, .ref hT, .ref (xd 11), .ref (xd 12), .ref (xd 13), .int x_lyingCount, .ref (xd 15), .int x_fewest, .ref hg, .ref (xd 18), .int x_time])), (hp, .inr (1, [.ref (pd 0), .ref (pd 1), .ref (pd 2), .ref hf, .int p_mC, .int p_nC, .int p_kC, .int p_units, .int p_copy, .int p_loss, .int p_draw]))] H := g_sub (isC := [4, 0, 1, 5, 6, 2, 3]) hP rfl
          have hD : va_D A [(hs, .inr (5, [.ref (sd 0), .ref (sd 1), .ref (sd 2), .ref (sd 3), .ref (sd 4), .ref (sd 5), .ref (sd 6), .int s_size, .int s_copier, .int s_copyLeft, .int s_tick, .int s_seed, .int s_dropped])), (sd 0, .inl (cyI, 6, .inl s_row)), (sd 2, .inl (cyI, 8, .inl s_clean)), (sd 5, .inl (cyI, 41, .inl s_ks)), (sd 6, .inl (cyI, 41, .inl s_vs)), (hX, .inr (6, [.ref (xd 0), .int x_tapeLength, .ref hp, .ref hd, .ref hR0, .ref hu, .ref (xd 6), .int x_at, .int x_top, .ref hs, .ref hT, .ref (xd 11), .ref (xd 12), .ref (xd 13), .int x_lyingCount, .ref (xd 15), .int x_fewest, .ref hg, .ref (xd 18), .int x_time])), (hp, .inr (1, [.ref (pd 0), .ref (pd 1), .ref (pd 2), .ref hf, .int p_mC, .int p_nC, .int p_kC, .int p_units, .int p_copy, .int p_loss, .int p_draw]))] := hD.sub [4, 0, 1, 5, 6, 2, 3] (by decide) rfl
          apply ih18031 (v18026 := v18026) (v18027 := z18043) (H := H) (locs := locs) (ls := ls) <;> first | assumption | omega
        · have c18042 := i_ne (a := r18037.toInt) (b := r18040.toInt) c18042 rfl rfl
          refine lv_iload_n hx hb dX6_stale_94 rfl (lv_at hl 3 rfl) ?_
          refine lv_iconst (v := 1) hx hb dX6_stale_95 (by decide) ?_
          refine lv_iload hx hb dX6_stale_96 (lv_at hl 1 rfl) ?_
          refine lv_ishl hx hb dX6_stale_98 ?_
          refine lv_topi (fun z18044 ez18044 => ?_)
          refine lv_ior hx hb dX6_stale_99 ?_
          refine lv_topi (fun z18045 ez18045 => ?_)
          refine lv_istore_n (lv' := [(2, .int z18045), (5, .int z18035), (4, .int z18033), (3, .int v18027), (0, .ref hX), (1, .int x1)]) hx hb dX6_stale_100 rfl hl (by decide) rfl (fun ls hl => ?_)
          obtain ⟨z18046, ez18046⟩ : ∃ y : Int32, y = v18027 + 1 := ⟨_, rfl⟩
          have tz18046 := ti_add (a := v18027.toInt) (b := 1) ez18046 rfl (by decide) (by omega) (by omega)
          refine lv_iinc (v := z18046) (lv' := [(3, .int z18046), (2, .int z18045), (5, .int z18035), (4, .int z18033), (0, .ref hX), (1, .int x1)]) hx hb dX6_stale_101 hl (k := 3) rfl (by rw [ez18046]; rfl) (by decide) rfl (fun ls hl => ?_)
          refine lv_goto (tgt := 14) hx hb dX6_stale_104 (by decide) ?_
          have hl := lv_sub (l' := [(3, .int z18046), (2, .int z18045), (0, .ref hX), (1, .int x1)]) hl [0, 1, 4, 5] rfl
          have hP : va_P (dC, dI) vwCl [(hs, .inr (5, [.ref (sd 0), .ref (sd 1), .ref (sd 2), .ref (sd 3), .ref (sd 4), .ref (sd 5), .ref (sd 6), .int s_size, .int s_copier, .int s_copyLeft, .int s_tick, .int s_seed, .int s_dropped])), (sd 0, .inl (cyI, 6, .inl s_row)), (sd 2, .inl (cyI, 8, .inl s_clean)), (sd 5, .inl (cyI, 41, .inl s_ks)), (sd 6, .inl (cyI, 41, .inl s_vs)), (hX, .inr (6, [.ref (xd 0), .int x_tapeLength, .ref hp, .ref hd, .ref hR0, .ref hu, .ref (xd 6), .int x_at, .int x_top, .ref hs, .ref hT, .ref (xd 11), .ref (xd 12), .ref (xd 13), .int x_lyingCount, .ref (xd 15), .int x_fewest, .ref hg, .ref (xd 18), .int x_time])), (hp, .inr (1, [.ref (pd 0), .ref (pd 1), .ref (pd 2), .ref hf, .int p_mC, .int p_nC, .int p_kC, .int p_units, .int p_copy, .int p_loss, .int p_draw]))] H := g_sub (isC := [4, 0, 1, 5, 6, 2, 3]) hP rfl
          have hD : va_D A [(hs, .inr (5, [.ref (sd 0), .ref (sd 1), .ref (sd 2), .ref (sd 3), .ref (sd 4), .ref (sd 5), .ref (sd 6), .int s_size, .int s_copier, .int s_copyLeft, .int s_tick, .int s_seed, .int s_dropped])), (sd 0, .inl (cyI, 6, .inl s_row)), (sd 2, .inl (cyI, 8, .inl s_clean)), (sd 5, .inl (cyI, 41, .inl s_ks)), (sd 6, .inl (cyI, 41, .inl s_vs)), (hX, .inr (6, [.ref (xd 0), .int x_tapeLength, .ref hp, .ref hd, .ref hR0, .ref hu, .ref (xd 6), .int x_at, .int x_top, .ref hs, .ref hT, .ref (xd 11), .ref (xd 12), .ref (xd 13), .int x_lyingCount, .ref (xd 15), .int x_fewest, .ref hg, .ref (xd 18), .int x_time])), (hp, .inr (1, [.ref (pd 0), .ref (pd 1), .ref (pd 2), .ref hf, .int p_mC, .int p_nC, .int p_kC, .int p_units, .int p_copy, .int p_loss, .int p_draw]))] := hD.sub [4, 0, 1, 5, 6, 2, 3] (by decide) rfl
          apply ih18031 (v18026 := z18045) (v18027 := z18046) (H := H) (locs := locs) (ls := ls) <;> first | assumption | omega
  · skip
    refine lv_if_ne (tgt := 10) hx hb dX6_stale_5 (by decide) (fun c18047 => absurd (by decide) c18047) (fun _ => ?_)
    refine lv_iconst (v := (-1)) hx hb dX6_stale_8 (by decide) ?_
    exact W.iret (v := (-1)) hx hb hr (fun t ht hW => ⟨⟨(-1), (), rfl, trivial, cE.of ht hP hD [5, 6, 0, 1, 2, 3, 4] (by decide) rfl⟩, hS.F ht⟩) hS.2.2 dX6_stale_9
