def wo_k_X7_bringBack_v4 : List Cond := [.fieldLink RX7 76 "ReplicaChainModel" "all" "[I", .fieldLink RX7 79 "ReplicaChainModel" "kept" "[I"]
def wq_k_X7_bringBack_v4 : List Cond := .code yX7_bringBack cX7_bringBack 2 none :: (wo_k_X7_bringBack_v4 ++ (wsX70 ++ []))
theorem gd_k_X7_bringBack_v4 : Gd wq_k_X7_bringBack_v4 := gd_c (gd_a (gd_o (by decide +kernel)) (gd_a gd_u gd_0))
abbrev wc_k_X7_bringBack_v4 (cyB cyI cyJ cyZ cyO : ClassId) (md : Nat → Nat) (g : Nat → Int32) (u3397 : Nat → Nat → Int32) (h1 : Nat) : va_W := [(md 40, .inl (cyI, 520, .inl g)), (md 41, .inl (cyI, 520, .inl (u3397 0))), (h1, .inr (7, [.ref (md 0), .ref (md 1), .int 0, .int 0, .int 0, .int (-1), .int 0, .int 0, .int 0, .int 0, .long 0, .ref (md 11), .ref (md 12), .ref (md 13), .ref (md 14), .ref (md 15), .ref (md 16), .ref (md 17), .ref (md 18), .ref (md 19), .ref (md 20), .ref (md 21), .ref (md 22), .ref (md 23), .ref (md 24), .ref (md 25), .ref (md 26), .ref (md 27), .ref (md 28), .int 0, .int 0, .int 0, .int 0, .int 0, .int 0, .int 0, .int 0, .int 0, .int 0, .int 0, .ref (md 40), .ref (md 41), .int 0, .int 0, .ref (md 44), .int 0, .int 0, .ref (md 47), .ref (md 48), .int 0, .ref (md 50), .ref (md 51), .ref (md 52), .ref (md 53), .ref (md 54), .int 0, .int 0, .ref (md 57), .ref (md 58)]))]
set_option maxHeartbeats 4000000 in
set_option maxRecDepth 100000 in
theorem k_X7_bringBack_v4 (l : Launch) (dC : Nat → ClassId) (dI : Nat → Nat → Nat) (cyB cyI cyJ cyZ cyO : ClassId) (md : Nat → Nat) (g : Nat → Int32) (u3397 : Nat → Nat → Int32) (h1 : Nat) (sz : Nat) (hg : AllZ g) : Met l yX7_bringBack wq_k_X7_bringBack_v4 ({ frames := 0, cells := 0, slots := 0, locals := 0 }) (va_Pc [.ref h1] (cB (dC, dI) (kT cyB cyI cyJ cyZ cyO) (wc_k_X7_bringBack_v4 cyB cyI cyJ cyZ cyO md g u3397 h1) sz)) (va_Qv (fun _ => True) (fun (u : Nat → Nat → Int32) t => cE (dC, dI) (va_A (wc_k_X7_bringBack_v4 cyB cyI cyJ cyZ cyO md g u3397 h1) sz) ([(md 40, .inl (cyI, 520, .inl (u 0))), (md 41, .inl (cyI, 520, .inl (u3397 0))), (h1, .inr (7, [.ref (md 0), .ref (md 1), .int 0, .int 0, .int 0, .int (-1), .int 0, .int 0, .int 0, .int 0, .long 0, .ref (md 11), .ref (md 12), .ref (md 13), .ref (md 14), .ref (md 15), .ref (md 16), .ref (md 17), .ref (md 18), .ref (md 19), .ref (md 20), .ref (md 21), .ref (md 22), .ref (md 23), .ref (md 24), .ref (md 25), .ref (md 26), .ref (md 27), .ref (md 28), .int 0, .int 0, .int 0, .int 0, .int 0, .int 0, .int 0, .int 0, .int 0, .int 0, .int 0, .ref (md 40), .ref (md 41), .int 0, .int 0, .ref (md 44), .int 0, .int 0, .ref (md 47), .ref (md 48), .int 0, .ref (md 50), .ref (md 51), .ref (md 52), .ref (md 53), .ref (md 54), .int 0, .int 0, .ref (md 57), .ref (md 58)]))]) t.heap) (va_A (wc_k_X7_bringBack_v4 cyB cyI cyJ cyZ cyO md g u3397 h1) sz)) 0 0 (va_A (wc_k_X7_bringBack_v4 cyB cyI cyJ cyZ cyO md g u3397 h1) sz) := by
  refine Met.ofW (cc := cX7_bringBack) (maxL := 2) (ret := none) (by decide) rfl ?_
  intro p e s m args below meth c s₁ B hml hv
  obtain ⟨rfl, hsz, hP, hKN, hD0⟩ := hv
  have hx := B.exec
  have hb := B.bytes
  have hr := B.returns
  have hts := atoms_spec (ws := wq_k_X7_bringBack_v4) B.pre
  have hown : s.vm.findClass RX7 = some m.cls := findClass_of_methodNamed B.named
  have hlocks := B.notSynchronized
  have hK := hKN.1
  have hfix : CallFix p m c cX7_bringBack 2 s [.ref h1].toArray wq_k_X7_bringBack_v4 RX7 := ⟨hx, hb, hml, hown, hts⟩
  have hi7 : ∀ w ∈ wsX70, w ∈ wq_k_X7_bringBack_v4 := (sb_c sb_l)
  subst hsz
  have hD := hD0.self (sz := s.heap.size)
  generalize hAe : va_A (wc_k_X7_bringBack_v4 cyB cyI cyJ cyZ cyO md g u3397 h1) s.heap.size = A at hD ⊢
  have hA : ∀ q : Nat, s.heap.size ≤ q → A q := fun q h => by rw [← hAe]; exact Or.inr h
  have hS : va_S A s.heap s.heap [] := va_S.rf
  have hl := lv_entry ([.ref h1]) (n := 2) (Nat.le_of_ble_eq_true rfl)
  rw [lg_entry_eq]
  generalize (lg_sl ([.ref h1]) ++ List.replicate (2 - (lg_sl ([.ref h1])).length) Slot.unset).toArray = ls at hl ⊢
  have hl : lv_has ls 2 [(0, .ref h1)] := hl
  refine lv_iconst (v := 0) hx hb dX7_bringBack_0 (by decide) ?_
  refine lv_istore_n (lv' := [(1, .int 0), (0, .ref h1)]) hx hb dX7_bringBack_1 rfl hl (by decide) rfl (fun ls hl => ?_)
  refine w_gen (fun H locs ls hP hS hl => ?_) hP hS hl
  obtain ⟨k, hk, hl2⟩ : ∃ k : Nat, k + 520 = 520 ∧ lv_has ls 2 [(1, .int (nI k)), (0, .ref h1)] := ⟨0, Nat.zero_add _, hl⟩
  obtain ⟨n, hkn⟩ : ∃ n : Nat, k + n = 520 := ⟨520, hk⟩
  obtain ⟨f3407, hP2, hD2⟩ : ∃ (f3407 : Nat → Int32), va_P (dC, dI) vwCl [(md 40, .inl (cyI, 520, .inl f3407)), (md 41, .inl (cyI, 520, .inl (u3397 0))), (h1, .inr (7, [.ref (md 0), .ref (md 1), .int 0, .int 0, .int 0, .int (-1), .int 0, .int 0, .int 0, .int 0, .long 0, .ref (md 11), .ref (md 12), .ref (md 13), .ref (md 14), .ref (md 15), .ref (md 16), .ref (md 17), .ref (md 18), .ref (md 19), .ref (md 20), .ref (md 21), .ref (md 22), .ref (md 23), .ref (md 24), .ref (md 25), .ref (md 26), .ref (md 27), .ref (md 28), .int 0, .int 0, .int 0, .int 0, .int 0, .int 0, .int 0, .int 0, .int 0, .int 0, .int 0, .ref (md 40), .ref (md 41), .int 0, .int 0, .ref (md 44), .int 0, .int 0, .ref (md 47), .ref (md 48), .int 0, .ref (md 50), .ref (md 51), .ref (md 52), .ref (md 53), .ref (md 54), .int 0, .int 0, .ref (md 57), .ref (md 58)]))] H ∧ va_D A [(md 40, .inl (cyI, 520, .inl f3407)), (md 41, .inl (cyI, 520, .inl (u3397 0))), (h1, .inr (7, [.ref (md 0), .ref (md 1), .int 0, .int 0, .int 0, .int (-1), .int 0, .int 0, .int 0, .int 0, .long 0, .ref (md 11), .ref (md 12), .ref (md 13), .ref (md 14), .ref (md 15), .ref (md 16), .ref (md 17), .ref (md 18), .ref (md 19), .ref (md 20), .ref (md 21), .ref (md 22), .ref (md 23), .ref (md 24), .ref (md 25), .ref (md 26), .ref (md 27), .ref (md 28), .int 0, .int 0, .int 0, .int 0, .int 0, .int 0, .int 0, .int 0, .int 0, .int 0, .int 0, .ref (md 40), .ref (md 41), .int 0, .int 0, .ref (md 44), .int 0, .int 0, .ref (md 47), .ref (md 48), .int 0, .ref (md 50), .ref (md 51), .ref (md 52), .ref (md 53), .ref (md 54), .int 0, .int 0, .ref (md 57), .ref (md 58)]))] := ⟨_, hP, hD⟩
  clear hk hP hl
  have hP := hP2
  have hD := hD2
  have hl := hl2
  clear hP2 hD2 hl2
  induction n generalizing k f3407 H locs ls with
  | zero =>
    obtain rfl : k = 520 := by omega
    refine lv_iload_n hx hb dX7_bringBack_2 rfl (lv_at hl 0 rfl) ?_
    refine lv_sipush (v := 520) hx hb dX7_bringBack_3 (by decide) ?_
    refine lv_icmp_ge (tgt := 27) hx hb dX7_bringBack_6 (by decide) (fun _ => ?_) (fun c3408 => absurd (by decide) c3408)
    exact W.vret hx hb hr (fun t ht hW => ⟨⟨(fun _ => f3407), rfl, trivial, cE.of ht hP hD [0, 1, 2] (by decide) rfl⟩, hS.F ht⟩) hS.2.2 dX7_bringBack_27
  | succ n ih =>
    refine lv_iload_n hx hb dX7_bringBack_2 rfl (lv_at hl 0 rfl) ?_
    refine lv_sipush (v := 520) hx hb dX7_bringBack_3 (by decide) ?_
    refine lv_icmp_ge (tgt := 27) hx hb dX7_bringBack_6 (by decide) (fun c3409 => ?_) (fun c3409 => ?_)
    · have c3409 := i_le (a := 520) (b := (k : Int)) c3409 (by decide) (nI_toInt (by omega))
      exfalso; omega
    · have c3409 := i_nle (a := 520) (b := (k : Int)) c3409 (by decide) (nI_toInt (by omega))
      refine lv_aload_n hx hb dX7_bringBack_9 rfl (lv_at hl 1 rfl) ?_
      refine va_get (D := (dC, dI)) (ci := 7) (v := .ref (md 40)) (C := RX7) (T := TX7) (N := 59) hx hb hts hi7 hown hK hP 2 rfl rfl 40 (by decide) (hts _ (ow_m (k := 0) rfl)) (fun _ h9 => h9) rfl dX7_bringBack_10 ?_
      refine lv_iload_n hx hb dX7_bringBack_13 rfl (lv_at hl 0 rfl) ?_
      refine lv_aload_n hx hb dX7_bringBack_14 rfl (lv_at hl 1 rfl) ?_
      refine va_get (D := (dC, dI)) (ci := 7) (v := .ref (md 41)) (C := RX7) (T := TX7) (N := 59) hx hb hts hi7 hown hK hP 2 rfl rfl 41 (by decide) (hts _ (ow_m (k := 1) rfl)) (fun _ h9 => h9) rfl dX7_bringBack_15 ?_
      refine lv_iload_n hx hb dX7_bringBack_18 rfl (lv_at hl 0 rfl) ?_
      refine va_iald hx hb hK hP 1 1 rfl rfl (vp_i (nI_toInt (by omega)) (by omega) (by omega)) dX7_bringBack_19 ?_
      refine lv_topi (fun z3410 ez3410 => ?_)
      refine va_iast hx hb hK hP hD hS 0 1 rfl rfl (vp_i (nI_toInt (by omega)) (by omega) (by omega)) dX7_bringBack_20 (fun H locs hP hD hS => ?_)
      have hP : va_P (dC, dI) vwCl [(md 40, .inl (cyI, 520, .inl (upd f3407 (nI k).toNatClampNeg z3410))), (md 41, .inl (cyI, 520, .inl (u3397 0))), (h1, .inr (7, [.ref (md 0), .ref (md 1), .int 0, .int 0, .int 0, .int (-1), .int 0, .int 0, .int 0, .int 0, .long 0, .ref (md 11), .ref (md 12), .ref (md 13), .ref (md 14), .ref (md 15), .ref (md 16), .ref (md 17), .ref (md 18), .ref (md 19), .ref (md 20), .ref (md 21), .ref (md 22), .ref (md 23), .ref (md 24), .ref (md 25), .ref (md 26), .ref (md 27), .ref (md 28), .int 0, .int 0, .int 0, .int 0, .int 0, .int 0, .int 0, .int 0, .int 0, .int 0, .int 0, .ref (md 40), .ref (md 41), .int 0, .int 0, .ref (md 44), .int 0, .int 0, .ref (md 47), .ref (md 48), .int 0, .ref (md 50), .ref (md 51), .ref (md 52), .ref (md 53), .ref (md 54), .int 0, .int 0, .ref (md 57), .ref (md 58)]))] H := hP
      have hD : va_D A [(md 40, .inl (cyI, 520, .inl (upd f3407 (nI k).toNatClampNeg z3410))), (md 41, .inl (cyI, 520, .inl (u3397 0))), (h1, .inr (7, [.ref (md 0), .ref (md 1), .int 0, .int 0, .int 0, .int (-1), .int 0, .int 0, .int 0, .int 0, .long 0, .ref (md 11), .ref (md 12), .ref (md 13), .ref (md 14), .ref (md 15), .ref (md 16), .ref (md 17), .ref (md 18), .ref (md 19), .ref (md 20), .ref (md 21), .ref (md 22), .ref (md 23), .ref (md 24), .ref (md 25), .ref (md 26), .ref (md 27), .ref (md 28), .int 0, .int 0, .int 0, .int 0, .int 0, .int 0, .int 0, .int 0, .int 0, .int 0, .int 0, .ref (md 40), .ref (md 41), .int 0, .int 0, .ref (md 44), .int 0, .int 0, .ref (md 47), .ref (md 48), .int 0, .ref (md 50), .ref (md 51), .ref (md 52), .ref (md 53), .ref (md 54), .int 0, .int 0, .ref (md 57), .ref (md 58)]))] := hD
      generalize upd f3407 (nI k).toNatClampNeg z3410 = f3411 at hP hD
      refine lv_iinc (v := nI (k + 1)) (lv' := [(1, .int (nI (k + 1))), (0, .ref h1)]) hx hb dX7_bringBack_21 hl (k := 0) rfl (nI_1 k) (by decide) rfl (fun ls hl => ?_)
      refine lv_goto (tgt := 2) hx hb dX7_bringBack_24 (by decide) ?_
      have hl := lv_sub (l' := [(1, .int (nI (k + 1))), (0, .ref h1)]) hl [0, 1] rfl
      apply ih (k := k + 1) (f3407 := f3411) <;> first | assumption | omega
def wo_k_X7_layAnswers : List Cond := [.methodLink RX7 410 yX7_keepNow, .instanceMethod yX7_keepNow, .selects RX7 yX7_keepNow yX7_keepNow, .initialized RX7, .methodLink RX7 489 yX7_cases, .instanceMethod yX7_cases, .selects RX7 yX7_cases yX7_cases, .methodLink RX7 416 yX7_bringBack, .instanceMethod yX7_bringBack, .selects RX7 yX7_bringBack yX7_bringBack]
def wq_k_X7_layAnswers : List Cond := .code yX7_layAnswers cX7_layAnswers 3 none :: (wo_k_X7_layAnswers ++ (wq_k_X7_keepNow ++ (wq_k_X7_cases ++ (wq_k_X7_bringBack_v4 ++ []))))
theorem gd_k_X7_layAnswers : Gd wq_k_X7_layAnswers := gd_c (gd_a (gd_o (by decide +kernel)) (gd_a gd_k_X7_keepNow (gd_a gd_k_X7_cases (gd_a gd_k_X7_bringBack_v4 gd_0))))
abbrev wc_k_X7_layAnswers (cyB cyI cyJ cyZ cyO : ClassId) (h1 : Nat) (md : Nat → Nat) (g : Nat → Int32) : va_W := [(h1, .inr (7, [.ref (md 0), .ref (md 1), .int 0, .int 0, .int 0, .int (-1), .int 0, .int 0, .int 0, .int 0, .long 0, .ref (md 11), .ref (md 12), .ref (md 13), .ref (md 14), .ref (md 15), .ref (md 16), .ref (md 17), .ref (md 18), .ref (md 19), .ref (md 20), .ref (md 21), .ref (md 22), .ref (md 23), .ref (md 24), .ref (md 25), .ref (md 26), .ref (md 27), .ref (md 28), .int 0, .int 0, .int 0, .int 0, .int 0, .int 0, .int 0, .int 0, .int 0, .int 0, .int 0, .ref (md 40), .ref (md 41), .int 0, .int 0, .ref (md 44), .int 0, .int 0, .ref (md 47), .ref (md 48), .int 0, .ref (md 50), .ref (md 51), .ref (md 52), .ref (md 53), .ref (md 54), .int 0, .int 0, .ref (md 57), .ref (md 58)])), (md 12, .inl (cyI, 2, .inl (fun _ => 0))), (md 40, .inl (cyI, 520, .inl g)), (md 41, .inl (cyI, 520, .inl (fun _ => 0)))]
set_option maxHeartbeats 4000000 in
set_option maxRecDepth 100000 in
theorem k_X7_layAnswers (l : Launch) (dC : Nat → ClassId) (dI : Nat → Nat → Nat) (cyB cyI cyJ cyZ cyO : ClassId) (h1 : Nat) (md : Nat → Nat) (g : Nat → Int32) (sz : Nat) (hg : AllZ g) : Met l yX7_layAnswers wq_k_X7_layAnswers ({ frames := 1, cells := 0, slots := 0, locals := 21 }) (va_Pc [.ref h1] (cB (dC, dI) (kT cyB cyI cyJ cyZ cyO) (wc_k_X7_layAnswers cyB cyI cyJ cyZ cyO h1 md g) sz)) (va_Qv (fun _ => True) (fun (u : Nat → Nat → Int32) t => cE (dC, dI) (va_A (wc_k_X7_layAnswers cyB cyI cyJ cyZ cyO h1 md g) sz) ([(h1, .inr (7, [.ref (md 0), .ref (md 1), .int 0, .int 0, .int 0, .int (-1), .int 0, .int 0, .int 0, .int 0, .long 0, .ref (md 11), .ref (md 12), .ref (md 13), .ref (md 14), .ref (md 15), .ref (md 16), .ref (md 17), .ref (md 18), .ref (md 19), .ref (md 20), .ref (md 21), .ref (md 22), .ref (md 23), .ref (md 24), .ref (md 25), .ref (md 26), .ref (md 27), .ref (md 28), .int 0, .int 0, .int 0, .int 0, .int 0, .int 0, .int 0, .int 0, .int 0, .int 0, .int 0, .ref (md 40), .ref (md 41), .int 0, .int 0, .ref (md 44), .int 0, .int 0, .ref (md 47), .ref (md 48), .int 0, .ref (md 50), .ref (md 51), .ref (md 52), .ref (md 53), .ref (md 54), .int 0, .int 0, .ref (md 57), .ref (md 58)])), (md 12, .inl (cyI, 2, .inl (fun _ => 0))), (md 40, .inl (cyI, 520, .inl (u 0))), (md 41, .inl (cyI, 520, .inl (u 1)))]) t.heap) (va_A (wc_k_X7_layAnswers cyB cyI cyJ cyZ cyO h1 md g) sz)) 0 0 (va_A (wc_k_X7_layAnswers cyB cyI cyJ cyZ cyO h1 md g) sz) := by
  refine Met.ofW (cc := cX7_layAnswers) (maxL := 3) (ret := none) (by decide) rfl ?_
  intro p e s m args below meth c s₁ B hml hv
  obtain ⟨rfl, hsz, hP, hKN, hD0⟩ := hv
  have hx := B.exec
  have hb := B.bytes
  have hr := B.returns
  have hts := atoms_spec (ws := wq_k_X7_layAnswers) B.pre
  have hown : s.vm.findClass RX7 = some m.cls := findClass_of_methodNamed B.named
  have hlocks := B.notSynchronized
  have hK := hKN.1
  have hfix : CallFix p m c cX7_layAnswers 3 s [.ref h1].toArray wq_k_X7_layAnswers RX7 := ⟨hx, hb, hml, hown, hts⟩
  subst hsz
  have hD := hD0.self (sz := s.heap.size)
  generalize hAe : va_A (wc_k_X7_layAnswers cyB cyI cyJ cyZ cyO h1 md g) s.heap.size = A at hD ⊢
  have hA : ∀ q : Nat, s.heap.size ≤ q → A q := fun q h => by rw [← hAe]; exact Or.inr h
  have hS : va_S A s.heap s.heap [] := va_S.rf
  have hl := lv_entry ([.ref h1]) (n := 3) (Nat.le_of_ble_eq_true rfl)
  rw [lg_entry_eq]
  generalize (lg_sl ([.ref h1]) ++ List.replicate (3 - (lg_sl ([.ref h1])).length) Slot.unset).toArray = ls at hl ⊢
  have hl : lv_has ls 3 [(0, .ref h1)] := hl
  refine lv_aload_n hx hb dX7_layAnswers_0 rfl (lv_at hl 0 rfl) ?_
  refine gf_v (wr := [(md 12, .inl (cyI, 2, .inl (fun _ => 0)))]) (va_runV (As := []) (rest := []) hfix (k_X7_keepNow l dC dI cyB cyI cyJ cyZ cyO h1 md g _ hg) (cwV 0 hts (gi_V (ow_m (k := 0) rfl) (ow_m (k := 1) rfl) (ow_m (k := 2) rfl) (ow_m (k := 3) rfl) (sb_c sb_l) gd_k_X7_keepNow) rfl rfl rfl (by decide +kernel) ⟨Nat.le_of_ble_eq_true rfl, Nat.le_of_ble_eq_true rfl⟩) (g_preV hKN hP hD [0, 2, 3] rfl (by decide) 0 7 rfl rfl) rfl rfl hl.1 rfl (lv_room (Nat.le_of_ble_eq_true rfl)) dX7_layAnswers_1 ⟨Nat.le_of_ble_eq_true rfl, Nat.le_of_ble_eq_true rfl⟩) hP hD hS hA [0, 2, 3] [1] rfl rfl (by decide) (by decide) (fun u3397 H locs qu3397 hP hD hS => ?_)
  have hP : va_P (dC, dI) vwCl [(md 12, .inl (cyI, 2, .inl (fun _ => 0))), (h1, .inr (7, [.ref (md 0), .ref (md 1), .int 0, .int 0, .int 0, .int (-1), .int 0, .int 0, .int 0, .int 0, .long 0, .ref (md 11), .ref (md 12), .ref (md 13), .ref (md 14), .ref (md 15), .ref (md 16), .ref (md 17), .ref (md 18), .ref (md 19), .ref (md 20), .ref (md 21), .ref (md 22), .ref (md 23), .ref (md 24), .ref (md 25), .ref (md 26), .ref (md 27), .ref (md 28), .int 0, .int 0, .int 0, .int 0, .int 0, .int 0, .int 0, .int 0, .int 0, .int 0, .int 0, .ref (md 40), .ref (md 41), .int 0, .int 0, .ref (md 44), .int 0, .int 0, .ref (md 47), .ref (md 48), .int 0, .ref (md 50), .ref (md 51), .ref (md 52), .ref (md 53), .ref (md 54), .int 0, .int 0, .ref (md 57), .ref (md 58)])), (md 40, .inl (cyI, 520, .inl g)), (md 41, .inl (cyI, 520, .inl (u3397 0)))] H := hP
  have hD : va_D A [(md 12, .inl (cyI, 2, .inl (fun _ => 0))), (h1, .inr (7, [.ref (md 0), .ref (md 1), .int 0, .int 0, .int 0, .int (-1), .int 0, .int 0, .int 0, .int 0, .long 0, .ref (md 11), .ref (md 12), .ref (md 13), .ref (md 14), .ref (md 15), .ref (md 16), .ref (md 17), .ref (md 18), .ref (md 19), .ref (md 20), .ref (md 21), .ref (md 22), .ref (md 23), .ref (md 24), .ref (md 25), .ref (md 26), .ref (md 27), .ref (md 28), .int 0, .int 0, .int 0, .int 0, .int 0, .int 0, .int 0, .int 0, .int 0, .int 0, .int 0, .ref (md 40), .ref (md 41), .int 0, .int 0, .ref (md 44), .int 0, .int 0, .ref (md 47), .ref (md 48), .int 0, .ref (md 50), .ref (md 51), .ref (md 52), .ref (md 53), .ref (md 54), .int 0, .int 0, .ref (md 57), .ref (md 58)])), (md 40, .inl (cyI, 520, .inl g)), (md 41, .inl (cyI, 520, .inl (u3397 0)))] := hD
  refine lv_iconst (v := 0) hx hb dX7_layAnswers_4 (by decide) ?_
  refine lv_istore_n (lv' := [(1, .int 0), (0, .ref h1)]) hx hb dX7_layAnswers_5 rfl hl (by decide) rfl (fun ls hl => ?_)
  refine lv_iload_n hx hb dX7_layAnswers_6 rfl (lv_at hl 0 rfl) ?_
  refine lv_aload_n hx hb dX7_layAnswers_7 rfl (lv_at hl 1 rfl) ?_
  refine gf_i (wr := [(md 40, .inl (cyI, 520, .inl g)), (md 41, .inl (cyI, 520, .inl (u3397 0)))]) (va_runV (As := []) (rest := [.int 0]) hfix (k_X7_cases l dC dI cyB cyI cyJ cyZ cyO md h1 _) (cwV 0 hts (gi_V (ow_m (k := 4) rfl) (ow_m (k := 5) rfl) (ow_m (k := 6) rfl) (ow_m (k := 3) rfl) (sb_c (sb_r sb_l)) gd_k_X7_cases) rfl rfl rfl (by decide +kernel) ⟨Nat.le_of_ble_eq_true rfl, Nat.le_of_ble_eq_true rfl⟩) (g_preV hKN hP hD [0, 1] rfl (by decide) 1 7 rfl rfl) rfl rfl hl.1 rfl (lv_room (Nat.le_of_ble_eq_true rfl)) dX7_layAnswers_8 ⟨Nat.le_of_ble_eq_true rfl, Nat.le_of_ble_eq_true rfl⟩) hP hD hS hA [0, 1] [2, 3] rfl rfl (by decide) (by decide) (fun r3399 u3400 H locs qu3400 hP hD hS => ?_)
  have hP : va_P (dC, dI) vwCl [(md 40, .inl (cyI, 520, .inl g)), (md 41, .inl (cyI, 520, .inl (u3397 0))), (md 12, .inl (cyI, 2, .inl (fun _ => 0))), (h1, .inr (7, [.ref (md 0), .ref (md 1), .int 0, .int 0, .int 0, .int (-1), .int 0, .int 0, .int 0, .int 0, .long 0, .ref (md 11), .ref (md 12), .ref (md 13), .ref (md 14), .ref (md 15), .ref (md 16), .ref (md 17), .ref (md 18), .ref (md 19), .ref (md 20), .ref (md 21), .ref (md 22), .ref (md 23), .ref (md 24), .ref (md 25), .ref (md 26), .ref (md 27), .ref (md 28), .int 0, .int 0, .int 0, .int 0, .int 0, .int 0, .int 0, .int 0, .int 0, .int 0, .int 0, .ref (md 40), .ref (md 41), .int 0, .int 0, .ref (md 44), .int 0, .int 0, .ref (md 47), .ref (md 48), .int 0, .ref (md 50), .ref (md 51), .ref (md 52), .ref (md 53), .ref (md 54), .int 0, .int 0, .ref (md 57), .ref (md 58)]))] H := hP
  have hD : va_D A [(md 40, .inl (cyI, 520, .inl g)), (md 41, .inl (cyI, 520, .inl (u3397 0))), (md 12, .inl (cyI, 2, .inl (fun _ => 0))), (h1, .inr (7, [.ref (md 0), .ref (md 1), .int 0, .int 0, .int 0, .int (-1), .int 0, .int 0, .int 0, .int 0, .long 0, .ref (md 11), .ref (md 12), .ref (md 13), .ref (md 14), .ref (md 15), .ref (md 16), .ref (md 17), .ref (md 18), .ref (md 19), .ref (md 20), .ref (md 21), .ref (md 22), .ref (md 23), .ref (md 24), .ref (md 25), .ref (md 26), .ref (md 27), .ref (md 28), .int 0, .int 0, .int 0, .int 0, .int 0, .int 0, .int 0, .int 0, .int 0, .int 0, .int 0, .ref (md 40), .ref (md 41), .int 0, .int 0, .ref (md 44), .int 0, .int 0, .ref (md 47), .ref (md 48), .int 0, .ref (md 50), .ref (md 51), .ref (md 52), .ref (md 53), .ref (md 54), .int 0, .int 0, .ref (md 57), .ref (md 58)]))] := hD
  refine tp_c (w := 0) qu3400 ?_
  refine lv_icmp_ge (tgt := 90) hx hb dX7_layAnswers_11 (by decide) (fun _ => ?_) (fun c3401 => absurd (by decide) c3401)
  refine lv_aload_n hx hb dX7_layAnswers_90 rfl (lv_at hl 1 rfl) ?_
  refine gf_v (wr := [(md 12, .inl (cyI, 2, .inl (fun _ => 0)))]) (va_runV (As := []) (rest := []) hfix (k_X7_bringBack_v4 l dC dI cyB cyI cyJ cyZ cyO md g u3397 h1 _ hg) (cwV 0 hts (gi_V (ow_m (k := 7) rfl) (ow_m (k := 8) rfl) (ow_m (k := 9) rfl) (ow_m (k := 3) rfl) (sb_c (sb_r (sb_r sb_l))) gd_k_X7_bringBack_v4) rfl rfl rfl (by decide +kernel) ⟨Nat.le_of_ble_eq_true rfl, Nat.le_of_ble_eq_true rfl⟩) (g_preV hKN hP hD [0, 1, 3] rfl (by decide) 2 7 rfl rfl) rfl rfl hl.1 rfl (lv_room (Nat.le_of_ble_eq_true rfl)) dX7_layAnswers_91 ⟨Nat.le_of_ble_eq_true rfl, Nat.le_of_ble_eq_true rfl⟩) hP hD hS hA [0, 1, 3] [2] rfl rfl (by decide) (by decide) (fun u3413 H locs qu3413 hP hD hS => ?_)
  have hP : va_P (dC, dI) vwCl [(md 12, .inl (cyI, 2, .inl (fun _ => 0))), (md 40, .inl (cyI, 520, .inl (u3413 0))), (md 41, .inl (cyI, 520, .inl (u3397 0))), (h1, .inr (7, [.ref (md 0), .ref (md 1), .int 0, .int 0, .int 0, .int (-1), .int 0, .int 0, .int 0, .int 0, .long 0, .ref (md 11), .ref (md 12), .ref (md 13), .ref (md 14), .ref (md 15), .ref (md 16), .ref (md 17), .ref (md 18), .ref (md 19), .ref (md 20), .ref (md 21), .ref (md 22), .ref (md 23), .ref (md 24), .ref (md 25), .ref (md 26), .ref (md 27), .ref (md 28), .int 0, .int 0, .int 0, .int 0, .int 0, .int 0, .int 0, .int 0, .int 0, .int 0, .int 0, .ref (md 40), .ref (md 41), .int 0, .int 0, .ref (md 44), .int 0, .int 0, .ref (md 47), .ref (md 48), .int 0, .ref (md 50), .ref (md 51), .ref (md 52), .ref (md 53), .ref (md 54), .int 0, .int 0, .ref (md 57), .ref (md 58)]))] H := hP
  have hD : va_D A [(md 12, .inl (cyI, 2, .inl (fun _ => 0))), (md 40, .inl (cyI, 520, .inl (u3413 0))), (md 41, .inl (cyI, 520, .inl (u3397 0))), (h1, .inr (7, [.ref (md 0), .ref (md 1), .int 0, .int 0, .int 0, .int (-1), .int 0, .int 0, .int 0, .int 0, .long 0, .ref (md 11), .ref (md 12), .ref (md 13), .ref (md 14), .ref (md 15), .ref (md 16), .ref (md 17), .ref (md 18), .ref (md 19), .ref (md 20), .ref (md 21), .ref (md 22), .ref (md 23), .ref (md 24), .ref (md 25), .ref (md 26), .ref (md 27), .ref (md 28), .int 0, .int 0, .int 0, .int 0, .int 0, .int 0, .int 0, .int 0, .int 0, .int 0, .int 0, .ref (md 40), .ref (md 41), .int 0, .int 0, .ref (md 44), .int 0, .int 0, .ref (md 47), .ref (md 48), .int 0, .ref (md 50), .ref (md 51), .ref (md 52), .ref (md 53), .ref (md 54), .int 0, .int 0, .ref (md 57), .ref (md 58)]))] := hD
  exact W.vret hx hb hr (fun t ht hW => ⟨⟨(fun k => match k with | 0 => u3413 0 | _ => u3397 0), rfl, trivial, cE.of ht hP hD [3, 0, 1, 2] (by decide) rfl⟩, hS.F ht⟩) hS.2.2 dX7_layAnswers_94
def wo_k_X7_cases_v2 : List Cond := [.fieldLink RX7 24 "ReplicaChainModel" "members" "[I", .fieldLink RX7 214 "ReplicaChainModel" "bank" "I"]
def wq_k_X7_cases_v2 : List Cond := .code yX7_cases cX7_cases 1 (some .int) :: (wo_k_X7_cases_v2 ++ (wsX70 ++ []))
theorem gd_k_X7_cases_v2 : Gd wq_k_X7_cases_v2 := gd_c (gd_a (gd_o (by decide +kernel)) (gd_a gd_u gd_0))
abbrev wc_k_X7_cases_v2 (cyB cyI cyJ cyZ cyO : ClassId) (h1 : Nat) (md : Nat → Nat) : va_W := [(h1, .inr (7, [.ref (md 0), .ref (md 1), .int 0, .int 0, .int 0, .int (-1), .int 0, .int 0, .int 0, .int 0, .long 0, .ref (md 11), .ref (md 12), .ref (md 13), .ref (md 14), .ref (md 15), .ref (md 16), .ref (md 17), .ref (md 18), .ref (md 19), .ref (md 20), .ref (md 21), .ref (md 22), .ref (md 23), .ref (md 24), .ref (md 25), .ref (md 26), .ref (md 27), .ref (md 28), .int 0, .int 0, .int 0, .int 0, .int 0, .int 0, .int 0, .int 0, .int 0, .int 0, .int 0, .ref (md 40), .ref (md 41), .int 0, .int 0, .ref (md 44), .int 0, .int 0, .ref (md 47), .ref (md 48), .int 0, .ref (md 50), .ref (md 51), .ref (md 52), .ref (md 53), .ref (md 54), .int 0, .int 0, .ref (md 57), .ref (md 58)])), (md 12, .inl (cyI, 2, .inl (fun _ => 0)))]
set_option maxHeartbeats 4000000 in
set_option maxRecDepth 100000 in
theorem k_X7_cases_v2 (l : Launch) (dC : Nat → ClassId) (dI : Nat → Nat → Nat) (cyB cyI cyJ cyZ cyO : ClassId) (h1 : Nat) (md : Nat → Nat) (sz : Nat) : Met l yX7_cases wq_k_X7_cases_v2 ({ frames := 0, cells := 0, slots := 0, locals := 0 }) (va_Pc [.ref h1] (cB (dC, dI) (kT cyB cyI cyJ cyZ cyO) (wc_k_X7_cases_v2 cyB cyI cyJ cyZ cyO h1 md) sz)) (va_Qi (fun (r : Int32) _ => r = 0) (fun (u : Unit) t => cE (dC, dI) (va_A (wc_k_X7_cases_v2 cyB cyI cyJ cyZ cyO h1 md) sz) ([(h1, .inr (7, [.ref (md 0), .ref (md 1), .int 0, .int 0, .int 0, .int (-1), .int 0, .int 0, .int 0, .int 0, .long 0, .ref (md 11), .ref (md 12), .ref (md 13), .ref (md 14), .ref (md 15), .ref (md 16), .ref (md 17), .ref (md 18), .ref (md 19), .ref (md 20), .ref (md 21), .ref (md 22), .ref (md 23), .ref (md 24), .ref (md 25), .ref (md 26), .ref (md 27), .ref (md 28), .int 0, .int 0, .int 0, .int 0, .int 0, .int 0, .int 0, .int 0, .int 0, .int 0, .int 0, .ref (md 40), .ref (md 41), .int 0, .int 0, .ref (md 44), .int 0, .int 0, .ref (md 47), .ref (md 48), .int 0, .ref (md 50), .ref (md 51), .ref (md 52), .ref (md 53), .ref (md 54), .int 0, .int 0, .ref (md 57), .ref (md 58)])), (md 12, .inl (cyI, 2, .inl (fun _ => 0)))]) t.heap) (va_A (wc_k_X7_cases_v2 cyB cyI cyJ cyZ cyO h1 md) sz)) 0 0 (va_A (wc_k_X7_cases_v2 cyB cyI cyJ cyZ cyO h1 md) sz) := by
  refine Met.ofW (cc := cX7_cases) (maxL := 1) (ret := (some .int)) (by decide) rfl ?_
  intro p e s m args below meth c s₁ B hml hv
  obtain ⟨rfl, hsz, hP, hKN, hD0⟩ := hv
  have hx := B.exec
  have hb := B.bytes
  have hr := B.returns
  have hts := atoms_spec (ws := wq_k_X7_cases_v2) B.pre
  have hown : s.vm.findClass RX7 = some m.cls := findClass_of_methodNamed B.named
  have hlocks := B.notSynchronized
  have hK := hKN.1
  have hfix : CallFix p m c cX7_cases 1 s [.ref h1].toArray wq_k_X7_cases_v2 RX7 := ⟨hx, hb, hml, hown, hts⟩
  have hi7 : ∀ w ∈ wsX70, w ∈ wq_k_X7_cases_v2 := (sb_c sb_l)
  subst hsz
  have hD := hD0.self (sz := s.heap.size)
  generalize hAe : va_A (wc_k_X7_cases_v2 cyB cyI cyJ cyZ cyO h1 md) s.heap.size = A at hD ⊢
  have hA : ∀ q : Nat, s.heap.size ≤ q → A q := fun q h => by rw [← hAe]; exact Or.inr h
  have hS : va_S A s.heap s.heap [] := va_S.rf
  have hl := lv_entry ([.ref h1]) (n := 1) (Nat.le_of_ble_eq_true rfl)
  rw [lg_entry_eq]
  generalize (lg_sl ([.ref h1]) ++ List.replicate (1 - (lg_sl ([.ref h1])).length) Slot.unset).toArray = ls at hl ⊢
  have hl : lv_has ls 1 [(0, .ref h1)] := hl
  refine lv_aload_n hx hb dX7_cases_0 rfl (lv_at hl 0 rfl) ?_
  refine va_get (D := (dC, dI)) (ci := 7) (v := .ref (md 12)) (C := RX7) (T := TX7) (N := 59) hx hb hts hi7 hown hK hP 0 rfl rfl 12 (by decide) (hts _ (ow_m (k := 0) rfl)) (fun _ h9 => h9) rfl dX7_cases_1 ?_
  refine lv_aload_n hx hb dX7_cases_4 rfl (lv_at hl 0 rfl) ?_
  refine va_get (D := (dC, dI)) (ci := 7) (v := .int 0) (C := RX7) (T := TX7) (N := 59) hx hb hts hi7 hown hK hP 0 rfl rfl 29 (by decide) (hts _ (ow_m (k := 1) rfl)) (fun _ h9 => h9) rfl dX7_cases_5 ?_
  refine va_iald hx hb hK hP 1 1 rfl rfl (vp_i (a := 0) (by decide) (by decide) (by decide)) dX7_cases_8 ?_
  refine tp_c (w := 0) (by rfl) ?_
  refine lv_iconst (v := 1) hx hb dX7_cases_9 (by decide) ?_
  refine lv_icmp_le (tgt := 27) hx hb dX7_cases_10 (by decide) (fun _ => ?_) (fun c3417 => absurd (by decide) c3417)
  refine lv_aload_n hx hb dX7_cases_27 rfl (lv_at hl 0 rfl) ?_
  refine va_get (D := (dC, dI)) (ci := 7) (v := .ref (md 12)) (C := RX7) (T := TX7) (N := 59) hx hb hts hi7 hown hK hP 0 rfl rfl 12 (by decide) (hts _ (ow_m (k := 0) rfl)) (fun _ h9 => h9) rfl dX7_cases_28 ?_
  refine lv_aload_n hx hb dX7_cases_31 rfl (lv_at hl 0 rfl) ?_
  refine va_get (D := (dC, dI)) (ci := 7) (v := .int 0) (C := RX7) (T := TX7) (N := 59) hx hb hts hi7 hown hK hP 0 rfl rfl 29 (by decide) (hts _ (ow_m (k := 1) rfl)) (fun _ h9 => h9) rfl dX7_cases_32 ?_
  refine va_iald hx hb hK hP 1 1 rfl rfl (vp_i (a := 0) (by decide) (by decide) (by decide)) dX7_cases_35 ?_
  refine tp_c (w := 0) (by rfl) ?_
  exact W.iret (v := 0) hx hb hr (fun t ht hW => ⟨⟨0, (), rfl, rfl, cE.of ht hP hD [0, 1] (by decide) rfl⟩, hS.F ht⟩) hS.2.2 dX7_cases_36
def wo_k_X7_bringBack_v5 : List Cond := [.fieldLink RX7 76 "ReplicaChainModel" "all" "[I", .fieldLink RX7 79 "ReplicaChainModel" "kept" "[I"]
def wq_k_X7_bringBack_v5 : List Cond := .code yX7_bringBack cX7_bringBack 2 none :: (wo_k_X7_bringBack_v5 ++ (wsX70 ++ []))
theorem gd_k_X7_bringBack_v5 : Gd wq_k_X7_bringBack_v5 := gd_c (gd_a (gd_o (by decide +kernel)) (gd_a gd_u gd_0))
abbrev wc_k_X7_bringBack_v5 (cyB cyI cyJ cyZ cyO : ClassId) (md : Nat → Nat) (g : Nat → Int32) (u3427 : Nat → Nat → Int32) (h1 : Nat) : va_W := [(md 40, .inl (cyI, 520, .inl g)), (md 41, .inl (cyI, 520, .inl (u3427 0))), (h1, .inr (7, [.ref (md 0), .ref (md 1), .int 0, .int 0, .int 0, .int (-1), .int 0, .int 0, .int 0, .int 0, .long 0, .ref (md 11), .ref (md 12), .ref (md 13), .ref (md 14), .ref (md 15), .ref (md 16), .ref (md 17), .ref (md 18), .ref (md 19), .ref (md 20), .ref (md 21), .ref (md 22), .ref (md 23), .ref (md 24), .ref (md 25), .ref (md 26), .ref (md 27), .ref (md 28), .int 0, .int 0, .int 0, .int 0, .int 0, .int 0, .int 0, .int 0, .int 0, .int 0, .int 0, .ref (md 40), .ref (md 41), .int 0, .int 0, .ref (md 44), .int 0, .int 0, .ref (md 47), .ref (md 48), .int 0, .ref (md 50), .ref (md 51), .ref (md 52), .ref (md 53), .ref (md 54), .int 0, .int 0, .ref (md 57), .ref (md 58)]))]
set_option maxHeartbeats 4000000 in
set_option maxRecDepth 100000 in
theorem k_X7_bringBack_v5 (l : Launch) (dC : Nat → ClassId) (dI : Nat → Nat → Nat) (cyB cyI cyJ cyZ cyO : ClassId) (md : Nat → Nat) (g : Nat → Int32) (u3427 : Nat → Nat → Int32) (h1 : Nat) (sz : Nat) (hg : AllZ g) : Met l yX7_bringBack wq_k_X7_bringBack_v5 ({ frames := 0, cells := 0, slots := 0, locals := 0 }) (va_Pc [.ref h1] (cB (dC, dI) (kT cyB cyI cyJ cyZ cyO) (wc_k_X7_bringBack_v5 cyB cyI cyJ cyZ cyO md g u3427 h1) sz)) (va_Qv (fun _ => True) (fun (u : Nat → Nat → Int32) t => cE (dC, dI) (va_A (wc_k_X7_bringBack_v5 cyB cyI cyJ cyZ cyO md g u3427 h1) sz) ([(md 40, .inl (cyI, 520, .inl (u 0))), (md 41, .inl (cyI, 520, .inl (u3427 0))), (h1, .inr (7, [.ref (md 0), .ref (md 1), .int 0, .int 0, .int 0, .int (-1), .int 0, .int 0, .int 0, .int 0, .long 0, .ref (md 11), .ref (md 12), .ref (md 13), .ref (md 14), .ref (md 15), .ref (md 16), .ref (md 17), .ref (md 18), .ref (md 19), .ref (md 20), .ref (md 21), .ref (md 22), .ref (md 23), .ref (md 24), .ref (md 25), .ref (md 26), .ref (md 27), .ref (md 28), .int 0, .int 0, .int 0, .int 0, .int 0, .int 0, .int 0, .int 0, .int 0, .int 0, .int 0, .ref (md 40), .ref (md 41), .int 0, .int 0, .ref (md 44), .int 0, .int 0, .ref (md 47), .ref (md 48), .int 0, .ref (md 50), .ref (md 51), .ref (md 52), .ref (md 53), .ref (md 54), .int 0, .int 0, .ref (md 57), .ref (md 58)]))]) t.heap) (va_A (wc_k_X7_bringBack_v5 cyB cyI cyJ cyZ cyO md g u3427 h1) sz)) 0 0 (va_A (wc_k_X7_bringBack_v5 cyB cyI cyJ cyZ cyO md g u3427 h1) sz) := by
  refine Met.ofW (cc := cX7_bringBack) (maxL := 2) (ret := none) (by decide) rfl ?_
  intro p e s m args below meth c s₁ B hml hv
  obtain ⟨rfl, hsz, hP, hKN, hD0⟩ := hv
  have hx := B.exec
  have hb := B.bytes
  have hr := B.returns
  have hts := atoms_spec (ws := wq_k_X7_bringBack_v5) B.pre
  have hown : s.vm.findClass RX7 = some m.cls := findClass_of_methodNamed B.named
  have hlocks := B.notSynchronized
  have hK := hKN.1
  have hfix : CallFix p m c cX7_bringBack 2 s [.ref h1].toArray wq_k_X7_bringBack_v5 RX7 := ⟨hx, hb, hml, hown, hts⟩
  have hi7 : ∀ w ∈ wsX70, w ∈ wq_k_X7_bringBack_v5 := (sb_c sb_l)
  subst hsz
  have hD := hD0.self (sz := s.heap.size)
  generalize hAe : va_A (wc_k_X7_bringBack_v5 cyB cyI cyJ cyZ cyO md g u3427 h1) s.heap.size = A at hD ⊢
  have hA : ∀ q : Nat, s.heap.size ≤ q → A q := fun q h => by rw [← hAe]; exact Or.inr h
  have hS : va_S A s.heap s.heap [] := va_S.rf
  have hl := lv_entry ([.ref h1]) (n := 2) (Nat.le_of_ble_eq_true rfl)
  rw [lg_entry_eq]
  generalize (lg_sl ([.ref h1]) ++ List.replicate (2 - (lg_sl ([.ref h1])).length) Slot.unset).toArray = ls at hl ⊢
  have hl : lv_has ls 2 [(0, .ref h1)] := hl
  refine lv_iconst (v := 0) hx hb dX7_bringBack_0 (by decide) ?_
  refine lv_istore_n (lv' := [(1, .int 0), (0, .ref h1)]) hx hb dX7_bringBack_1 rfl hl (by decide) rfl (fun ls hl => ?_)
  refine w_gen (fun H locs ls hP hS hl => ?_) hP hS hl
  obtain ⟨k, hk, hl2⟩ : ∃ k : Nat, k + 520 = 520 ∧ lv_has ls 2 [(1, .int (nI k)), (0, .ref h1)] := ⟨0, Nat.zero_add _, hl⟩
  obtain ⟨n, hkn⟩ : ∃ n : Nat, k + n = 520 := ⟨520, hk⟩
  obtain ⟨f3437, hP2, hD2⟩ : ∃ (f3437 : Nat → Int32), va_P (dC, dI) vwCl [(md 40, .inl (cyI, 520, .inl f3437)), (md 41, .inl (cyI, 520, .inl (u3427 0))), (h1, .inr (7, [.ref (md 0), .ref (md 1), .int 0, .int 0, .int 0, .int (-1), .int 0, .int 0, .int 0, .int 0, .long 0, .ref (md 11), .ref (md 12), .ref (md 13), .ref (md 14), .ref (md 15), .ref (md 16), .ref (md 17), .ref (md 18), .ref (md 19), .ref (md 20), .ref (md 21), .ref (md 22), .ref (md 23), .ref (md 24), .ref (md 25), .ref (md 26), .ref (md 27), .ref (md 28), .int 0, .int 0, .int 0, .int 0, .int 0, .int 0, .int 0, .int 0, .int 0, .int 0, .int 0, .ref (md 40), .ref (md 41), .int 0, .int 0, .ref (md 44), .int 0, .int 0, .ref (md 47), .ref (md 48), .int 0, .ref (md 50), .ref (md 51), .ref (md 52), .ref (md 53), .ref (md 54), .int 0, .int 0, .ref (md 57), .ref (md 58)]))] H ∧ va_D A [(md 40, .inl (cyI, 520, .inl f3437)), (md 41, .inl (cyI, 520, .inl (u3427 0))), (h1, .inr (7, [.ref (md 0), .ref (md 1), .int 0, .int 0, .int 0, .int (-1), .int 0, .int 0, .int 0, .int 0, .long 0, .ref (md 11), .ref (md 12), .ref (md 13), .ref (md 14), .ref (md 15), .ref (md 16), .ref (md 17), .ref (md 18), .ref (md 19), .ref (md 20), .ref (md 21), .ref (md 22), .ref (md 23), .ref (md 24), .ref (md 25), .ref (md 26), .ref (md 27), .ref (md 28), .int 0, .int 0, .int 0, .int 0, .int 0, .int 0, .int 0, .int 0, .int 0, .int 0, .int 0, .ref (md 40), .ref (md 41), .int 0, .int 0, .ref (md 44), .int 0, .int 0, .ref (md 47), .ref (md 48), .int 0, .ref (md 50), .ref (md 51), .ref (md 52), .ref (md 53), .ref (md 54), .int 0, .int 0, .ref (md 57), .ref (md 58)]))] := ⟨_, hP, hD⟩
  clear hk hP hl
  have hP := hP2
  have hD := hD2
  have hl := hl2
  clear hP2 hD2 hl2
  induction n generalizing k f3437 H locs ls with
  | zero =>
    obtain rfl : k = 520 := by omega
    refine lv_iload_n hx hb dX7_bringBack_2 rfl (lv_at hl 0 rfl) ?_
    refine lv_sipush (v := 520) hx hb dX7_bringBack_3 (by decide) ?_
    refine lv_icmp_ge (tgt := 27) hx hb dX7_bringBack_6 (by decide) (fun _ => ?_) (fun c3438 => absurd (by decide) c3438)
    exact W.vret hx hb hr (fun t ht hW => ⟨⟨(fun _ => f3437), rfl, trivial, cE.of ht hP hD [0, 1, 2] (by decide) rfl⟩, hS.F ht⟩) hS.2.2 dX7_bringBack_27
  | succ n ih =>
    refine lv_iload_n hx hb dX7_bringBack_2 rfl (lv_at hl 0 rfl) ?_
    refine lv_sipush (v := 520) hx hb dX7_bringBack_3 (by decide) ?_
    refine lv_icmp_ge (tgt := 27) hx hb dX7_bringBack_6 (by decide) (fun c3439 => ?_) (fun c3439 => ?_)
    · have c3439 := i_le (a := 520) (b := (k : Int)) c3439 (by decide) (nI_toInt (by omega))
      exfalso; omega
    · have c3439 := i_nle (a := 520) (b := (k : Int)) c3439 (by decide) (nI_toInt (by omega))
      refine lv_aload_n hx hb dX7_bringBack_9 rfl (lv_at hl 1 rfl) ?_
      refine va_get (D := (dC, dI)) (ci := 7) (v := .ref (md 40)) (C := RX7) (T := TX7) (N := 59) hx hb hts hi7 hown hK hP 2 rfl rfl 40 (by decide) (hts _ (ow_m (k := 0) rfl)) (fun _ h9 => h9) rfl dX7_bringBack_10 ?_
      refine lv_iload_n hx hb dX7_bringBack_13 rfl (lv_at hl 0 rfl) ?_
      refine lv_aload_n hx hb dX7_bringBack_14 rfl (lv_at hl 1 rfl) ?_
      refine va_get (D := (dC, dI)) (ci := 7) (v := .ref (md 41)) (C := RX7) (T := TX7) (N := 59) hx hb hts hi7 hown hK hP 2 rfl rfl 41 (by decide) (hts _ (ow_m (k := 1) rfl)) (fun _ h9 => h9) rfl dX7_bringBack_15 ?_
      refine lv_iload_n hx hb dX7_bringBack_18 rfl (lv_at hl 0 rfl) ?_
      refine va_iald hx hb hK hP 1 1 rfl rfl (vp_i (nI_toInt (by omega)) (by omega) (by omega)) dX7_bringBack_19 ?_
      refine lv_topi (fun z3440 ez3440 => ?_)
      refine va_iast hx hb hK hP hD hS 0 1 rfl rfl (vp_i (nI_toInt (by omega)) (by omega) (by omega)) dX7_bringBack_20 (fun H locs hP hD hS => ?_)
      have hP : va_P (dC, dI) vwCl [(md 40, .inl (cyI, 520, .inl (upd f3437 (nI k).toNatClampNeg z3440))), (md 41, .inl (cyI, 520, .inl (u3427 0))), (h1, .inr (7, [.ref (md 0), .ref (md 1), .int 0, .int 0, .int 0, .int (-1), .int 0, .int 0, .int 0, .int 0, .long 0, .ref (md 11), .ref (md 12), .ref (md 13), .ref (md 14), .ref (md 15), .ref (md 16), .ref (md 17), .ref (md 18), .ref (md 19), .ref (md 20), .ref (md 21), .ref (md 22), .ref (md 23), .ref (md 24), .ref (md 25), .ref (md 26), .ref (md 27), .ref (md 28), .int 0, .int 0, .int 0, .int 0, .int 0, .int 0, .int 0, .int 0, .int 0, .int 0, .int 0, .ref (md 40), .ref (md 41), .int 0, .int 0, .ref (md 44), .int 0, .int 0, .ref (md 47), .ref (md 48), .int 0, .ref (md 50), .ref (md 51), .ref (md 52), .ref (md 53), .ref (md 54), .int 0, .int 0, .ref (md 57), .ref (md 58)]))] H := hP
      have hD : va_D A [(md 40, .inl (cyI, 520, .inl (upd f3437 (nI k).toNatClampNeg z3440))), (md 41, .inl (cyI, 520, .inl (u3427 0))), (h1, .inr (7, [.ref (md 0), .ref (md 1), .int 0, .int 0, .int 0, .int (-1), .int 0, .int 0, .int 0, .int 0, .long 0, .ref (md 11), .ref (md 12), .ref (md 13), .ref (md 14), .ref (md 15), .ref (md 16), .ref (md 17), .ref (md 18), .ref (md 19), .ref (md 20), .ref (md 21), .ref (md 22), .ref (md 23), .ref (md 24), .ref (md 25), .ref (md 26), .ref (md 27), .ref (md 28), .int 0, .int 0, .int 0, .int 0, .int 0, .int 0, .int 0, .int 0, .int 0, .int 0, .int 0, .ref (md 40), .ref (md 41), .int 0, .int 0, .ref (md 44), .int 0, .int 0, .ref (md 47), .ref (md 48), .int 0, .ref (md 50), .ref (md 51), .ref (md 52), .ref (md 53), .ref (md 54), .int 0, .int 0, .ref (md 57), .ref (md 58)]))] := hD
      generalize upd f3437 (nI k).toNatClampNeg z3440 = f3441 at hP hD
      refine lv_iinc (v := nI (k + 1)) (lv' := [(1, .int (nI (k + 1))), (0, .ref h1)]) hx hb dX7_bringBack_21 hl (k := 0) rfl (nI_1 k) (by decide) rfl (fun ls hl => ?_)
      refine lv_goto (tgt := 2) hx hb dX7_bringBack_24 (by decide) ?_
      have hl := lv_sub (l' := [(1, .int (nI (k + 1))), (0, .ref h1)]) hl [0, 1] rfl
      apply ih (k := k + 1) (f3437 := f3441) <;> first | assumption | omega
def wo_c_M_fits : List Cond := [.methodLink RX7 495 yX7_layAnswers, .instanceMethod yX7_layAnswers, .selects RX7 yX7_layAnswers yX7_layAnswers, .initialized RX7, .methodLink RX7 489 yX7_cases, .instanceMethod yX7_cases, .selects RX7 yX7_cases yX7_cases]
def wq_c_M_fits : List Cond := .code yX7_fits cX7_fits 4 (some .int) :: (wo_c_M_fits ++ (wq_k_X7_layAnswers ++ (wq_k_X7_cases_v2 ++ [])))
theorem gd_c_M_fits : Gd wq_c_M_fits := gd_c (gd_a (gd_o (by decide +kernel)) (gd_a gd_k_X7_layAnswers (gd_a gd_k_X7_cases_v2 gd_0)))
abbrev wc_c_M_fits (cyB cyI cyJ cyZ cyO : ClassId) (h1 : Nat) (md : Nat → Nat) (g : Nat → Int32) (x1 : Int32) : va_W := [(h1, .inr (7, [.ref (md 0), .ref (md 1), .int 0, .int 0, .int 0, .int (-1), .int 0, .int 0, .int 0, .int 0, .long 0, .ref (md 11), .ref (md 12), .ref (md 13), .ref (md 14), .ref (md 15), .ref (md 16), .ref (md 17), .ref (md 18), .ref (md 19), .ref (md 20), .ref (md 21), .ref (md 22), .ref (md 23), .ref (md 24), .ref (md 25), .ref (md 26), .ref (md 27), .ref (md 28), .int 0, .int 0, .int 0, .int 0, .int 0, .int 0, .int 0, .int 0, .int 0, .int 0, .int 0, .ref (md 40), .ref (md 41), .int 0, .int 0, .ref (md 44), .int 0, .int 0, .ref (md 47), .ref (md 48), .int 0, .ref (md 50), .ref (md 51), .ref (md 52), .ref (md 53), .ref (md 54), .int 0, .int 0, .ref (md 57), .ref (md 58)])), (md 12, .inl (cyI, 2, .inl (fun _ => 0))), (md 40, .inl (cyI, 520, .inl g)), (md 41, .inl (cyI, 520, .inl (fun _ => 0)))]
set_option maxHeartbeats 4000000 in
set_option maxRecDepth 100000 in
theorem c_M_fits (l : Launch) (dC : Nat → ClassId) (dI : Nat → Nat → Nat) (cyB cyI cyJ cyZ cyO : ClassId) (h1 : Nat) (md : Nat → Nat) (g : Nat → Int32) (x1 : Int32) (sz : Nat) (hg : AllZ g) : Met l yX7_fits wq_c_M_fits ({ frames := 2, cells := 0, slots := 0, locals := 43 }) (va_Pc [.ref h1, .int x1] (cB (dC, dI) (kT cyB cyI cyJ cyZ cyO) (wc_c_M_fits cyB cyI cyJ cyZ cyO h1 md g x1) sz)) (va_Qi (fun (r : Int32) (_ : Unit) => r = 0) (fun (u : Unit) t => cE (dC, dI) (va_A (wc_c_M_fits cyB cyI cyJ cyZ cyO h1 md g x1) sz) ([]) t.heap) (va_A (wc_c_M_fits cyB cyI cyJ cyZ cyO h1 md g x1) sz)) 0 0 (va_A (wc_c_M_fits cyB cyI cyJ cyZ cyO h1 md g x1) sz) := by
  refine Met.ofW (cc := cX7_fits) (maxL := 4) (ret := (some .int)) (by decide) rfl ?_
  intro p e s m args below meth c s₁ B hml hv
  obtain ⟨rfl, hsz, hP, hKN, hD0⟩ := hv
  have hx := B.exec
  have hb := B.bytes
  have hr := B.returns
  have hts := atoms_spec (ws := wq_c_M_fits) B.pre
  have hown : s.vm.findClass RX7 = some m.cls := findClass_of_methodNamed B.named
  have hlocks := B.notSynchronized
  have hK := hKN.1
  have hfix : CallFix p m c cX7_fits 4 s [.ref h1, .int x1].toArray wq_c_M_fits RX7 := ⟨hx, hb, hml, hown, hts⟩
  subst hsz
  have hD := hD0.self (sz := s.heap.size)
  generalize hAe : va_A (wc_c_M_fits cyB cyI cyJ cyZ cyO h1 md g x1) s.heap.size = A at hD ⊢
  have hA : ∀ q : Nat, s.heap.size ≤ q → A q := fun q h => by rw [← hAe]; exact Or.inr h
  have hS : va_S A s.heap s.heap [] := va_S.rf
  have hl := lv_entry ([.ref h1, .int x1]) (n := 4) (Nat.le_of_ble_eq_true rfl)
  rw [lg_entry_eq]
  generalize (lg_sl ([.ref h1, .int x1]) ++ List.replicate (4 - (lg_sl ([.ref h1, .int x1])).length) Slot.unset).toArray = ls at hl ⊢
  have hl : lv_has ls 4 [(0, .ref h1), (1, .int x1)] := hl
  refine lv_aload_n hx hb dX7_fits_0 rfl (lv_at hl 0 rfl) ?_
  refine gf_v (wr := []) (va_runV (As := []) (rest := []) hfix (k_X7_layAnswers l dC dI cyB cyI cyJ cyZ cyO h1 md g _ hg) (cwV 0 hts (gi_V (ow_m (k := 0) rfl) (ow_m (k := 1) rfl) (ow_m (k := 2) rfl) (ow_m (k := 3) rfl) (sb_c sb_l) gd_k_X7_layAnswers) rfl rfl rfl (by decide +kernel) ⟨Nat.le_of_ble_eq_true rfl, Nat.le_of_ble_eq_true rfl⟩) (g_preV hKN hP hD [0, 1, 2, 3] rfl (by decide) 0 7 rfl rfl) rfl rfl hl.1 rfl (lv_room (Nat.le_of_ble_eq_true rfl)) dX7_fits_1 ⟨Nat.le_of_ble_eq_true rfl, Nat.le_of_ble_eq_true rfl⟩) hP hD hS hA [0, 1, 2, 3] [] rfl rfl (by decide) (by decide) (fun u3445 H locs qu3445 hP hD hS => ?_)
  have hP : va_P (dC, dI) vwCl [(h1, .inr (7, [.ref (md 0), .ref (md 1), .int 0, .int 0, .int 0, .int (-1), .int 0, .int 0, .int 0, .int 0, .long 0, .ref (md 11), .ref (md 12), .ref (md 13), .ref (md 14), .ref (md 15), .ref (md 16), .ref (md 17), .ref (md 18), .ref (md 19), .ref (md 20), .ref (md 21), .ref (md 22), .ref (md 23), .ref (md 24), .ref (md 25), .ref (md 26), .ref (md 27), .ref (md 28), .int 0, .int 0, .int 0, .int 0, .int 0, .int 0, .int 0, .int 0, .int 0, .int 0, .int 0, .ref (md 40), .ref (md 41), .int 0, .int 0, .ref (md 44), .int 0, .int 0, .ref (md 47), .ref (md 48), .int 0, .ref (md 50), .ref (md 51), .ref (md 52), .ref (md 53), .ref (md 54), .int 0, .int 0, .ref (md 57), .ref (md 58)])), (md 12, .inl (cyI, 2, .inl (fun _ => 0))), (md 40, .inl (cyI, 520, .inl (u3445 0))), (md 41, .inl (cyI, 520, .inl (u3445 1)))] H := hP
  have hD : va_D A [(h1, .inr (7, [.ref (md 0), .ref (md 1), .int 0, .int 0, .int 0, .int (-1), .int 0, .int 0, .int 0, .int 0, .long 0, .ref (md 11), .ref (md 12), .ref (md 13), .ref (md 14), .ref (md 15), .ref (md 16), .ref (md 17), .ref (md 18), .ref (md 19), .ref (md 20), .ref (md 21), .ref (md 22), .ref (md 23), .ref (md 24), .ref (md 25), .ref (md 26), .ref (md 27), .ref (md 28), .int 0, .int 0, .int 0, .int 0, .int 0, .int 0, .int 0, .int 0, .int 0, .int 0, .int 0, .ref (md 40), .ref (md 41), .int 0, .int 0, .ref (md 44), .int 0, .int 0, .ref (md 47), .ref (md 48), .int 0, .ref (md 50), .ref (md 51), .ref (md 52), .ref (md 53), .ref (md 54), .int 0, .int 0, .ref (md 57), .ref (md 58)])), (md 12, .inl (cyI, 2, .inl (fun _ => 0))), (md 40, .inl (cyI, 520, .inl (u3445 0))), (md 41, .inl (cyI, 520, .inl (u3445 1)))] := hD
  refine lv_iconst (v := 0) hx hb dX7_fits_4 (by decide) ?_
  refine lv_istore_n (lv' := [(2, .int 0), (0, .ref h1), (1, .int x1)]) hx hb dX7_fits_5 rfl hl (by decide) rfl (fun ls hl => ?_)
  refine lv_iconst (v := 0) hx hb dX7_fits_6 (by decide) ?_
  refine lv_istore_n (lv' := [(3, .int 0), (2, .int 0), (0, .ref h1), (1, .int x1)]) hx hb dX7_fits_7 rfl hl (by decide) rfl (fun ls hl => ?_)
  refine lv_iload_n hx hb dX7_fits_8 rfl (lv_at hl 0 rfl) ?_
  refine lv_aload_n hx hb dX7_fits_9 rfl (lv_at hl 2 rfl) ?_
  refine gf_i (wr := [(md 40, .inl (cyI, 520, .inl (u3445 0))), (md 41, .inl (cyI, 520, .inl (u3445 1)))]) (va_runV (As := []) (rest := [.int 0]) hfix (k_X7_cases_v2 l dC dI cyB cyI cyJ cyZ cyO h1 md _) (cwV 0 hts (gi_V (ow_m (k := 4) rfl) (ow_m (k := 5) rfl) (ow_m (k := 6) rfl) (ow_m (k := 3) rfl) (sb_c (sb_r sb_l)) gd_k_X7_cases_v2) rfl rfl rfl (by decide +kernel) ⟨Nat.le_of_ble_eq_true rfl, Nat.le_of_ble_eq_true rfl⟩) (g_preV hKN hP hD [0, 1] rfl (by decide) 0 7 rfl rfl) rfl rfl hl.1 rfl (lv_room (Nat.le_of_ble_eq_true rfl)) dX7_fits_10 ⟨Nat.le_of_ble_eq_true rfl, Nat.le_of_ble_eq_true rfl⟩) hP hD hS hA [0, 1] [2, 3] rfl rfl (by decide) (by decide) (fun r3447 u3448 H locs qu3448 hP hD hS => ?_)
  have hP : va_P (dC, dI) vwCl [(md 40, .inl (cyI, 520, .inl (u3445 0))), (md 41, .inl (cyI, 520, .inl (u3445 1))), (h1, .inr (7, [.ref (md 0), .ref (md 1), .int 0, .int 0, .int 0, .int (-1), .int 0, .int 0, .int 0, .int 0, .long 0, .ref (md 11), .ref (md 12), .ref (md 13), .ref (md 14), .ref (md 15), .ref (md 16), .ref (md 17), .ref (md 18), .ref (md 19), .ref (md 20), .ref (md 21), .ref (md 22), .ref (md 23), .ref (md 24), .ref (md 25), .ref (md 26), .ref (md 27), .ref (md 28), .int 0, .int 0, .int 0, .int 0, .int 0, .int 0, .int 0, .int 0, .int 0, .int 0, .int 0, .ref (md 40), .ref (md 41), .int 0, .int 0, .ref (md 44), .int 0, .int 0, .ref (md 47), .ref (md 48), .int 0, .ref (md 50), .ref (md 51), .ref (md 52), .ref (md 53), .ref (md 54), .int 0, .int 0, .ref (md 57), .ref (md 58)])), (md 12, .inl (cyI, 2, .inl (fun _ => 0)))] H := hP
  have hD : va_D A [(md 40, .inl (cyI, 520, .inl (u3445 0))), (md 41, .inl (cyI, 520, .inl (u3445 1))), (h1, .inr (7, [.ref (md 0), .ref (md 1), .int 0, .int 0, .int 0, .int (-1), .int 0, .int 0, .int 0, .int 0, .long 0, .ref (md 11), .ref (md 12), .ref (md 13), .ref (md 14), .ref (md 15), .ref (md 16), .ref (md 17), .ref (md 18), .ref (md 19), .ref (md 20), .ref (md 21), .ref (md 22), .ref (md 23), .ref (md 24), .ref (md 25), .ref (md 26), .ref (md 27), .ref (md 28), .int 0, .int 0, .int 0, .int 0, .int 0, .int 0, .int 0, .int 0, .int 0, .int 0, .int 0, .ref (md 40), .ref (md 41), .int 0, .int 0, .ref (md 44), .int 0, .int 0, .ref (md 47), .ref (md 48), .int 0, .ref (md 50), .ref (md 51), .ref (md 52), .ref (md 53), .ref (md 54), .int 0, .int 0, .ref (md 57), .ref (md 58)])), (md 12, .inl (cyI, 2, .inl (fun _ => 0)))] := hD
  refine tp_c (w := 0) qu3448 ?_
  refine lv_icmp_ge (tgt := 39) hx hb dX7_fits_13 (by decide) (fun _ => ?_) (fun c3449 => absurd (by decide) c3449)
  refine lv_iload_n hx hb dX7_fits_39 rfl (lv_at hl 1 rfl) ?_
  exact W.iret (v := 0) hx hb hr (fun t ht hW => ⟨⟨0, (), rfl, rfl, cE.nil⟩, hS.F ht⟩) hS.2.2 dX7_fits_40
def wo_k_X7_bringBack_v6 : List Cond := [.fieldLink RX7 76 "ReplicaChainModel" "all" "[I", .fieldLink RX7 79 "ReplicaChainModel" "kept" "[I"]
def wq_k_X7_bringBack_v6 : List Cond := .code yX7_bringBack cX7_bringBack 2 none :: (wo_k_X7_bringBack_v6 ++ (wsX70 ++ []))
theorem gd_k_X7_bringBack_v6 : Gd wq_k_X7_bringBack_v6 := gd_c (gd_a (gd_o (by decide +kernel)) (gd_a gd_u gd_0))
abbrev wc_k_X7_bringBack_v6 (cyB cyI cyJ cyZ cyO : ClassId) (md : Nat → Nat) (g : Nat → Int32) (u3456 : Nat → Nat → Int32) (h1 : Nat) : va_W := [(md 40, .inl (cyI, 520, .inl g)), (md 41, .inl (cyI, 520, .inl (u3456 0))), (h1, .inr (7, [.ref (md 0), .ref (md 1), .int 0, .int 0, .int 0, .int (-1), .int 0, .int 0, .int 0, .int 0, .long 0, .ref (md 11), .ref (md 12), .ref (md 13), .ref (md 14), .ref (md 15), .ref (md 16), .ref (md 17), .ref (md 18), .ref (md 19), .ref (md 20), .ref (md 21), .ref (md 22), .ref (md 23), .ref (md 24), .ref (md 25), .ref (md 26), .ref (md 27), .ref (md 28), .int 0, .int 0, .int 0, .int 0, .int 0, .int 0, .int 0, .int 0, .int 0, .int 0, .int 0, .ref (md 40), .ref (md 41), .int 0, .int 0, .ref (md 44), .int 0, .int 0, .ref (md 47), .ref (md 48), .int 0, .ref (md 50), .ref (md 51), .ref (md 52), .ref (md 53), .ref (md 54), .int 0, .int 0, .ref (md 57), .ref (md 58)]))]
set_option maxHeartbeats 4000000 in
set_option maxRecDepth 100000 in
theorem k_X7_bringBack_v6 (l : Launch) (dC : Nat → ClassId) (dI : Nat → Nat → Nat) (cyB cyI cyJ cyZ cyO : ClassId) (md : Nat → Nat) (g : Nat → Int32) (u3456 : Nat → Nat → Int32) (h1 : Nat) (sz : Nat) (hg : AllZ g) : Met l yX7_bringBack wq_k_X7_bringBack_v6 ({ frames := 0, cells := 0, slots := 0, locals := 0 }) (va_Pc [.ref h1] (cB (dC, dI) (kT cyB cyI cyJ cyZ cyO) (wc_k_X7_bringBack_v6 cyB cyI cyJ cyZ cyO md g u3456 h1) sz)) (va_Qv (fun _ => True) (fun (u : Nat → Nat → Int32) t => cE (dC, dI) (va_A (wc_k_X7_bringBack_v6 cyB cyI cyJ cyZ cyO md g u3456 h1) sz) ([(md 40, .inl (cyI, 520, .inl (u 0))), (md 41, .inl (cyI, 520, .inl (u3456 0))), (h1, .inr (7, [.ref (md 0), .ref (md 1), .int 0, .int 0, .int 0, .int (-1), .int 0, .int 0, .int 0, .int 0, .long 0, .ref (md 11), .ref (md 12), .ref (md 13), .ref (md 14), .ref (md 15), .ref (md 16), .ref (md 17), .ref (md 18), .ref (md 19), .ref (md 20), .ref (md 21), .ref (md 22), .ref (md 23), .ref (md 24), .ref (md 25), .ref (md 26), .ref (md 27), .ref (md 28), .int 0, .int 0, .int 0, .int 0, .int 0, .int 0, .int 0, .int 0, .int 0, .int 0, .int 0, .ref (md 40), .ref (md 41), .int 0, .int 0, .ref (md 44), .int 0, .int 0, .ref (md 47), .ref (md 48), .int 0, .ref (md 50), .ref (md 51), .ref (md 52), .ref (md 53), .ref (md 54), .int 0, .int 0, .ref (md 57), .ref (md 58)]))]) t.heap) (va_A (wc_k_X7_bringBack_v6 cyB cyI cyJ cyZ cyO md g u3456 h1) sz)) 0 0 (va_A (wc_k_X7_bringBack_v6 cyB cyI cyJ cyZ cyO md g u3456 h1) sz) := by
  refine Met.ofW (cc := cX7_bringBack) (maxL := 2) (ret := none) (by decide) rfl ?_
  intro p e s m args below meth c s₁ B hml hv
  obtain ⟨rfl, hsz, hP, hKN, hD0⟩ := hv
  have hx := B.exec
  have hb := B.bytes
  have hr := B.returns
  have hts := atoms_spec (ws := wq_k_X7_bringBack_v6) B.pre
  have hown : s.vm.findClass RX7 = some m.cls := findClass_of_methodNamed B.named
  have hlocks := B.notSynchronized
  have hK := hKN.1
  have hfix : CallFix p m c cX7_bringBack 2 s [.ref h1].toArray wq_k_X7_bringBack_v6 RX7 := ⟨hx, hb, hml, hown, hts⟩
  have hi7 : ∀ w ∈ wsX70, w ∈ wq_k_X7_bringBack_v6 := (sb_c sb_l)
  subst hsz
  have hD := hD0.self (sz := s.heap.size)
  generalize hAe : va_A (wc_k_X7_bringBack_v6 cyB cyI cyJ cyZ cyO md g u3456 h1) s.heap.size = A at hD ⊢
  have hA : ∀ q : Nat, s.heap.size ≤ q → A q := fun q h => by rw [← hAe]; exact Or.inr h
  have hS : va_S A s.heap s.heap [] := va_S.rf
  have hl := lv_entry ([.ref h1]) (n := 2) (Nat.le_of_ble_eq_true rfl)
  rw [lg_entry_eq]
  generalize (lg_sl ([.ref h1]) ++ List.replicate (2 - (lg_sl ([.ref h1])).length) Slot.unset).toArray = ls at hl ⊢
  have hl : lv_has ls 2 [(0, .ref h1)] := hl
  refine lv_iconst (v := 0) hx hb dX7_bringBack_0 (by decide) ?_
  refine lv_istore_n (lv' := [(1, .int 0), (0, .ref h1)]) hx hb dX7_bringBack_1 rfl hl (by decide) rfl (fun ls hl => ?_)
  refine w_gen (fun H locs ls hP hS hl => ?_) hP hS hl
  obtain ⟨k, hk, hl2⟩ : ∃ k : Nat, k + 520 = 520 ∧ lv_has ls 2 [(1, .int (nI k)), (0, .ref h1)] := ⟨0, Nat.zero_add _, hl⟩
  obtain ⟨n, hkn⟩ : ∃ n : Nat, k + n = 520 := ⟨520, hk⟩
  obtain ⟨f3466, hP2, hD2⟩ : ∃ (f3466 : Nat → Int32), va_P (dC, dI) vwCl [(md 40, .inl (cyI, 520, .inl f3466)), (md 41, .inl (cyI, 520, .inl (u3456 0))), (h1, .inr (7, [.ref (md 0), .ref (md 1), .int 0, .int 0, .int 0, .int (-1), .int 0, .int 0, .int 0, .int 0, .long 0, .ref (md 11), .ref (md 12), .ref (md 13), .ref (md 14), .ref (md 15), .ref (md 16), .ref (md 17), .ref (md 18), .ref (md 19), .ref (md 20), .ref (md 21), .ref (md 22), .ref (md 23), .ref (md 24), .ref (md 25), .ref (md 26), .ref (md 27), .ref (md 28), .int 0, .int 0, .int 0, .int 0, .int 0, .int 0, .int 0, .int 0, .int 0, .int 0, .int 0, .ref (md 40), .ref (md 41), .int 0, .int 0, .ref (md 44), .int 0, .int 0, .ref (md 47), .ref (md 48), .int 0, .ref (md 50), .ref (md 51), .ref (md 52), .ref (md 53), .ref (md 54), .int 0, .int 0, .ref (md 57), .ref (md 58)]))] H ∧ va_D A [(md 40, .inl (cyI, 520, .inl f3466)), (md 41, .inl (cyI, 520, .inl (u3456 0))), (h1, .inr (7, [.ref (md 0), .ref (md 1), .int 0, .int 0, .int 0, .int (-1), .int 0, .int 0, .int 0, .int 0, .long 0, .ref (md 11), .ref (md 12), .ref (md 13), .ref (md 14), .ref (md 15), .ref (md 16), .ref (md 17), .ref (md 18), .ref (md 19), .ref (md 20), .ref (md 21), .ref (md 22), .ref (md 23), .ref (md 24), .ref (md 25), .ref (md 26), .ref (md 27), .ref (md 28), .int 0, .int 0, .int 0, .int 0, .int 0, .int 0, .int 0, .int 0, .int 0, .int 0, .int 0, .ref (md 40), .ref (md 41), .int 0, .int 0, .ref (md 44), .int 0, .int 0, .ref (md 47), .ref (md 48), .int 0, .ref (md 50), .ref (md 51), .ref (md 52), .ref (md 53), .ref (md 54), .int 0, .int 0, .ref (md 57), .ref (md 58)]))] := ⟨_, hP, hD⟩
  clear hk hP hl
  have hP := hP2
  have hD := hD2
  have hl := hl2
  clear hP2 hD2 hl2
  induction n generalizing k f3466 H locs ls with
  | zero =>
    obtain rfl : k = 520 := by omega
    refine lv_iload_n hx hb dX7_bringBack_2 rfl (lv_at hl 0 rfl) ?_
    refine lv_sipush (v := 520) hx hb dX7_bringBack_3 (by decide) ?_
    refine lv_icmp_ge (tgt := 27) hx hb dX7_bringBack_6 (by decide) (fun _ => ?_) (fun c3467 => absurd (by decide) c3467)
    exact W.vret hx hb hr (fun t ht hW => ⟨⟨(fun _ => f3466), rfl, trivial, cE.of ht hP hD [0, 1, 2] (by decide) rfl⟩, hS.F ht⟩) hS.2.2 dX7_bringBack_27
  | succ n ih =>
    refine lv_iload_n hx hb dX7_bringBack_2 rfl (lv_at hl 0 rfl) ?_
    refine lv_sipush (v := 520) hx hb dX7_bringBack_3 (by decide) ?_
    refine lv_icmp_ge (tgt := 27) hx hb dX7_bringBack_6 (by decide) (fun c3468 => ?_) (fun c3468 => ?_)
    · have c3468 := i_le (a := 520) (b := (k : Int)) c3468 (by decide) (nI_toInt (by omega))
      exfalso; omega
    · have c3468 := i_nle (a := 520) (b := (k : Int)) c3468 (by decide) (nI_toInt (by omega))
      refine lv_aload_n hx hb dX7_bringBack_9 rfl (lv_at hl 1 rfl) ?_
      refine va_get (D := (dC, dI)) (ci := 7) (v := .ref (md 40)) (C := RX7) (T := TX7) (N := 59) hx hb hts hi7 hown hK hP 2 rfl rfl 40 (by decide) (hts _ (ow_m (k := 0) rfl)) (fun _ h9 => h9) rfl dX7_bringBack_10 ?_
      refine lv_iload_n hx hb dX7_bringBack_13 rfl (lv_at hl 0 rfl) ?_
      refine lv_aload_n hx hb dX7_bringBack_14 rfl (lv_at hl 1 rfl) ?_
      refine va_get (D := (dC, dI)) (ci := 7) (v := .ref (md 41)) (C := RX7) (T := TX7) (N := 59) hx hb hts hi7 hown hK hP 2 rfl rfl 41 (by decide) (hts _ (ow_m (k := 1) rfl)) (fun _ h9 => h9) rfl dX7_bringBack_15 ?_
      refine lv_iload_n hx hb dX7_bringBack_18 rfl (lv_at hl 0 rfl) ?_
      refine va_iald hx hb hK hP 1 1 rfl rfl (vp_i (nI_toInt (by omega)) (by omega) (by omega)) dX7_bringBack_19 ?_
      refine lv_topi (fun z3469 ez3469 => ?_)
      refine va_iast hx hb hK hP hD hS 0 1 rfl rfl (vp_i (nI_toInt (by omega)) (by omega) (by omega)) dX7_bringBack_20 (fun H locs hP hD hS => ?_)
      have hP : va_P (dC, dI) vwCl [(md 40, .inl (cyI, 520, .inl (upd f3466 (nI k).toNatClampNeg z3469))), (md 41, .inl (cyI, 520, .inl (u3456 0))), (h1, .inr (7, [.ref (md 0), .ref (md 1), .int 0, .int 0, .int 0, .int (-1), .int 0, .int 0, .int 0, .int 0, .long 0, .ref (md 11), .ref (md 12), .ref (md 13), .ref (md 14), .ref (md 15), .ref (md 16), .ref (md 17), .ref (md 18), .ref (md 19), .ref (md 20), .ref (md 21), .ref (md 22), .ref (md 23), .ref (md 24), .ref (md 25), .ref (md 26), .ref (md 27), .ref (md 28), .int 0, .int 0, .int 0, .int 0, .int 0, .int 0, .int 0, .int 0, .int 0, .int 0, .int 0, .ref (md 40), .ref (md 41), .int 0, .int 0, .ref (md 44), .int 0, .int 0, .ref (md 47), .ref (md 48), .int 0, .ref (md 50), .ref (md 51), .ref (md 52), .ref (md 53), .ref (md 54), .int 0, .int 0, .ref (md 57), .ref (md 58)]))] H := hP
      have hD : va_D A [(md 40, .inl (cyI, 520, .inl (upd f3466 (nI k).toNatClampNeg z3469))), (md 41, .inl (cyI, 520, .inl (u3456 0))), (h1, .inr (7, [.ref (md 0), .ref (md 1), .int 0, .int 0, .int 0, .int (-1), .int 0, .int 0, .int 0, .int 0, .long 0, .ref (md 11), .ref (md 12), .ref (md 13), .ref (md 14), .ref (md 15), .ref (md 16), .ref (md 17), .ref (md 18), .ref (md 19), .ref (md 20), .ref (md 21), .ref (md 22), .ref (md 23), .ref (md 24), .ref (md 25), .ref (md 26), .ref (md 27), .ref (md 28), .int 0, .int 0, .int 0, .int 0, .int 0, .int 0, .int 0, .int 0, .int 0, .int 0, .int 0, .ref (md 40), .ref (md 41), .int 0, .int 0, .ref (md 44), .int 0, .int 0, .ref (md 47), .ref (md 48), .int 0, .ref (md 50), .ref (md 51), .ref (md 52), .ref (md 53), .ref (md 54), .int 0, .int 0, .ref (md 57), .ref (md 58)]))] := hD
      generalize upd f3466 (nI k).toNatClampNeg z3469 = f3470 at hP hD
      refine lv_iinc (v := nI (k + 1)) (lv' := [(1, .int (nI (k + 1))), (0, .ref h1)]) hx hb dX7_bringBack_21 hl (k := 0) rfl (nI_1 k) (by decide) rfl (fun ls hl => ?_)
      refine lv_goto (tgt := 2) hx hb dX7_bringBack_24 (by decide) ?_
      have hl := lv_sub (l' := [(1, .int (nI (k + 1))), (0, .ref h1)]) hl [0, 1] rfl
      apply ih (k := k + 1) (f3466 := f3470) <;> first | assumption | omega
def wo_k_X7_bringBack_v7 : List Cond := [.fieldLink RX7 76 "ReplicaChainModel" "all" "[I", .fieldLink RX7 79 "ReplicaChainModel" "kept" "[I"]
def wq_k_X7_bringBack_v7 : List Cond := .code yX7_bringBack cX7_bringBack 2 none :: (wo_k_X7_bringBack_v7 ++ (wsX70 ++ []))
theorem gd_k_X7_bringBack_v7 : Gd wq_k_X7_bringBack_v7 := gd_c (gd_a (gd_o (by decide +kernel)) (gd_a gd_u gd_0))
abbrev wc_k_X7_bringBack_v7 (cyB cyI cyJ cyZ cyO : ClassId) (md : Nat → Nat) (g : Nat → Int32) (u3485 : Nat → Nat → Int32) (h1 : Nat) : va_W := [(md 40, .inl (cyI, 520, .inl g)), (md 41, .inl (cyI, 520, .inl (u3485 0))), (h1, .inr (7, [.ref (md 0), .ref (md 1), .int 0, .int 0, .int 0, .int (-1), .int 0, .int 0, .int 0, .int 0, .long 0, .ref (md 11), .ref (md 12), .ref (md 13), .ref (md 14), .ref (md 15), .ref (md 16), .ref (md 17), .ref (md 18), .ref (md 19), .ref (md 20), .ref (md 21), .ref (md 22), .ref (md 23), .ref (md 24), .ref (md 25), .ref (md 26), .ref (md 27), .ref (md 28), .int 0, .int 0, .int 0, .int 0, .int 0, .int 0, .int 0, .int 0, .int 0, .int 0, .int 0, .ref (md 40), .ref (md 41), .int 0, .int 0, .ref (md 44), .int 0, .int 0, .ref (md 47), .ref (md 48), .int 0, .ref (md 50), .ref (md 51), .ref (md 52), .ref (md 53), .ref (md 54), .int 0, .int 0, .ref (md 57), .ref (md 58)]))]
set_option maxHeartbeats 4000000 in
set_option maxRecDepth 100000 in
theorem k_X7_bringBack_v7 (l : Launch) (dC : Nat → ClassId) (dI : Nat → Nat → Nat) (cyB cyI cyJ cyZ cyO : ClassId) (md : Nat → Nat) (g : Nat → Int32) (u3485 : Nat → Nat → Int32) (h1 : Nat) (sz : Nat) (hg : AllZ g) : Met l yX7_bringBack wq_k_X7_bringBack_v7 ({ frames := 0, cells := 0, slots := 0, locals := 0 }) (va_Pc [.ref h1] (cB (dC, dI) (kT cyB cyI cyJ cyZ cyO) (wc_k_X7_bringBack_v7 cyB cyI cyJ cyZ cyO md g u3485 h1) sz)) (va_Qv (fun _ => True) (fun (u : Nat → Nat → Int32) t => cE (dC, dI) (va_A (wc_k_X7_bringBack_v7 cyB cyI cyJ cyZ cyO md g u3485 h1) sz) ([(md 40, .inl (cyI, 520, .inl (u 0))), (md 41, .inl (cyI, 520, .inl (u3485 0))), (h1, .inr (7, [.ref (md 0), .ref (md 1), .int 0, .int 0, .int 0, .int (-1), .int 0, .int 0, .int 0, .int 0, .long 0, .ref (md 11), .ref (md 12), .ref (md 13), .ref (md 14), .ref (md 15), .ref (md 16), .ref (md 17), .ref (md 18), .ref (md 19), .ref (md 20), .ref (md 21), .ref (md 22), .ref (md 23), .ref (md 24), .ref (md 25), .ref (md 26), .ref (md 27), .ref (md 28), .int 0, .int 0, .int 0, .int 0, .int 0, .int 0, .int 0, .int 0, .int 0, .int 0, .int 0, .ref (md 40), .ref (md 41), .int 0, .int 0, .ref (md 44), .int 0, .int 0, .ref (md 47), .ref (md 48), .int 0, .ref (md 50), .ref (md 51), .ref (md 52), .ref (md 53), .ref (md 54), .int 0, .int 0, .ref (md 57), .ref (md 58)]))]) t.heap) (va_A (wc_k_X7_bringBack_v7 cyB cyI cyJ cyZ cyO md g u3485 h1) sz)) 0 0 (va_A (wc_k_X7_bringBack_v7 cyB cyI cyJ cyZ cyO md g u3485 h1) sz) := by
  refine Met.ofW (cc := cX7_bringBack) (maxL := 2) (ret := none) (by decide) rfl ?_
  intro p e s m args below meth c s₁ B hml hv
  obtain ⟨rfl, hsz, hP, hKN, hD0⟩ := hv
  have hx := B.exec
  have hb := B.bytes
  have hr := B.returns
  have hts := atoms_spec (ws := wq_k_X7_bringBack_v7) B.pre
  have hown : s.vm.findClass RX7 = some m.cls := findClass_of_methodNamed B.named
  have hlocks := B.notSynchronized
  have hK := hKN.1
  have hfix : CallFix p m c cX7_bringBack 2 s [.ref h1].toArray wq_k_X7_bringBack_v7 RX7 := ⟨hx, hb, hml, hown, hts⟩
  have hi7 : ∀ w ∈ wsX70, w ∈ wq_k_X7_bringBack_v7 := (sb_c sb_l)
  subst hsz
  have hD := hD0.self (sz := s.heap.size)
  generalize hAe : va_A (wc_k_X7_bringBack_v7 cyB cyI cyJ cyZ cyO md g u3485 h1) s.heap.size = A at hD ⊢
  have hA : ∀ q : Nat, s.heap.size ≤ q → A q := fun q h => by rw [← hAe]; exact Or.inr h
  have hS : va_S A s.heap s.heap [] := va_S.rf
  have hl := lv_entry ([.ref h1]) (n := 2) (Nat.le_of_ble_eq_true rfl)
  rw [lg_entry_eq]
  generalize (lg_sl ([.ref h1]) ++ List.replicate (2 - (lg_sl ([.ref h1])).length) Slot.unset).toArray = ls at hl ⊢
  have hl : lv_has ls 2 [(0, .ref h1)] := hl
  refine lv_iconst (v := 0) hx hb dX7_bringBack_0 (by decide) ?_
  refine lv_istore_n (lv' := [(1, .int 0), (0, .ref h1)]) hx hb dX7_bringBack_1 rfl hl (by decide) rfl (fun ls hl => ?_)
  refine w_gen (fun H locs ls hP hS hl => ?_) hP hS hl
  obtain ⟨k, hk, hl2⟩ : ∃ k : Nat, k + 520 = 520 ∧ lv_has ls 2 [(1, .int (nI k)), (0, .ref h1)] := ⟨0, Nat.zero_add _, hl⟩
  obtain ⟨n, hkn⟩ : ∃ n : Nat, k + n = 520 := ⟨520, hk⟩
  obtain ⟨f3495, hP2, hD2⟩ : ∃ (f3495 : Nat → Int32), va_P (dC, dI) vwCl [(md 40, .inl (cyI, 520, .inl f3495)), (md 41, .inl (cyI, 520, .inl (u3485 0))), (h1, .inr (7, [.ref (md 0), .ref (md 1), .int 0, .int 0, .int 0, .int (-1), .int 0, .int 0, .int 0, .int 0, .long 0, .ref (md 11), .ref (md 12), .ref (md 13), .ref (md 14), .ref (md 15), .ref (md 16), .ref (md 17), .ref (md 18), .ref (md 19), .ref (md 20), .ref (md 21), .ref (md 22), .ref (md 23), .ref (md 24), .ref (md 25), .ref (md 26), .ref (md 27), .ref (md 28), .int 0, .int 0, .int 0, .int 0, .int 0, .int 0, .int 0, .int 0, .int 0, .int 0, .int 0, .ref (md 40), .ref (md 41), .int 0, .int 0, .ref (md 44), .int 0, .int 0, .ref (md 47), .ref (md 48), .int 0, .ref (md 50), .ref (md 51), .ref (md 52), .ref (md 53), .ref (md 54), .int 0, .int 0, .ref (md 57), .ref (md 58)]))] H ∧ va_D A [(md 40, .inl (cyI, 520, .inl f3495)), (md 41, .inl (cyI, 520, .inl (u3485 0))), (h1, .inr (7, [.ref (md 0), .ref (md 1), .int 0, .int 0, .int 0, .int (-1), .int 0, .int 0, .int 0, .int 0, .long 0, .ref (md 11), .ref (md 12), .ref (md 13), .ref (md 14), .ref (md 15), .ref (md 16), .ref (md 17), .ref (md 18), .ref (md 19), .ref (md 20), .ref (md 21), .ref (md 22), .ref (md 23), .ref (md 24), .ref (md 25), .ref (md 26), .ref (md 27), .ref (md 28), .int 0, .int 0, .int 0, .int 0, .int 0, .int 0, .int 0, .int 0, .int 0, .int 0, .int 0, .ref (md 40), .ref (md 41), .int 0, .int 0, .ref (md 44), .int 0, .int 0, .ref (md 47), .ref (md 48), .int 0, .ref (md 50), .ref (md 51), .ref (md 52), .ref (md 53), .ref (md 54), .int 0, .int 0, .ref (md 57), .ref (md 58)]))] := ⟨_, hP, hD⟩
  clear hk hP hl
  have hP := hP2
  have hD := hD2
  have hl := hl2
  clear hP2 hD2 hl2
  induction n generalizing k f3495 H locs ls with
  | zero =>
    obtain rfl : k = 520 := by omega
    refine lv_iload_n hx hb dX7_bringBack_2 rfl (lv_at hl 0 rfl) ?_
    refine lv_sipush (v := 520) hx hb dX7_bringBack_3 (by decide) ?_
    refine lv_icmp_ge (tgt := 27) hx hb dX7_bringBack_6 (by decide) (fun _ => ?_) (fun c3496 => absurd (by decide) c3496)
    exact W.vret hx hb hr (fun t ht hW => ⟨⟨(fun _ => f3495), rfl, trivial, cE.of ht hP hD [0, 1, 2] (by decide) rfl⟩, hS.F ht⟩) hS.2.2 dX7_bringBack_27
  | succ n ih =>
    refine lv_iload_n hx hb dX7_bringBack_2 rfl (lv_at hl 0 rfl) ?_
    refine lv_sipush (v := 520) hx hb dX7_bringBack_3 (by decide) ?_
    refine lv_icmp_ge (tgt := 27) hx hb dX7_bringBack_6 (by decide) (fun c3497 => ?_) (fun c3497 => ?_)
    · have c3497 := i_le (a := 520) (b := (k : Int)) c3497 (by decide) (nI_toInt (by omega))
      exfalso; omega
    · have c3497 := i_nle (a := 520) (b := (k : Int)) c3497 (by decide) (nI_toInt (by omega))
      refine lv_aload_n hx hb dX7_bringBack_9 rfl (lv_at hl 1 rfl) ?_
      refine va_get (D := (dC, dI)) (ci := 7) (v := .ref (md 40)) (C := RX7) (T := TX7) (N := 59) hx hb hts hi7 hown hK hP 2 rfl rfl 40 (by decide) (hts _ (ow_m (k := 0) rfl)) (fun _ h9 => h9) rfl dX7_bringBack_10 ?_
      refine lv_iload_n hx hb dX7_bringBack_13 rfl (lv_at hl 0 rfl) ?_
      refine lv_aload_n hx hb dX7_bringBack_14 rfl (lv_at hl 1 rfl) ?_
      refine va_get (D := (dC, dI)) (ci := 7) (v := .ref (md 41)) (C := RX7) (T := TX7) (N := 59) hx hb hts hi7 hown hK hP 2 rfl rfl 41 (by decide) (hts _ (ow_m (k := 1) rfl)) (fun _ h9 => h9) rfl dX7_bringBack_15 ?_
      refine lv_iload_n hx hb dX7_bringBack_18 rfl (lv_at hl 0 rfl) ?_
      refine va_iald hx hb hK hP 1 1 rfl rfl (vp_i (nI_toInt (by omega)) (by omega) (by omega)) dX7_bringBack_19 ?_
      refine lv_topi (fun z3498 ez3498 => ?_)
      refine va_iast hx hb hK hP hD hS 0 1 rfl rfl (vp_i (nI_toInt (by omega)) (by omega) (by omega)) dX7_bringBack_20 (fun H locs hP hD hS => ?_)
      have hP : va_P (dC, dI) vwCl [(md 40, .inl (cyI, 520, .inl (upd f3495 (nI k).toNatClampNeg z3498))), (md 41, .inl (cyI, 520, .inl (u3485 0))), (h1, .inr (7, [.ref (md 0), .ref (md 1), .int 0, .int 0, .int 0, .int (-1), .int 0, .int 0, .int 0, .int 0, .long 0, .ref (md 11), .ref (md 12), .ref (md 13), .ref (md 14), .ref (md 15), .ref (md 16), .ref (md 17), .ref (md 18), .ref (md 19), .ref (md 20), .ref (md 21), .ref (md 22), .ref (md 23), .ref (md 24), .ref (md 25), .ref (md 26), .ref (md 27), .ref (md 28), .int 0, .int 0, .int 0, .int 0, .int 0, .int 0, .int 0, .int 0, .int 0, .int 0, .int 0, .ref (md 40), .ref (md 41), .int 0, .int 0, .ref (md 44), .int 0, .int 0, .ref (md 47), .ref (md 48), .int 0, .ref (md 50), .ref (md 51), .ref (md 52), .ref (md 53), .ref (md 54), .int 0, .int 0, .ref (md 57), .ref (md 58)]))] H := hP
      have hD : va_D A [(md 40, .inl (cyI, 520, .inl (upd f3495 (nI k).toNatClampNeg z3498))), (md 41, .inl (cyI, 520, .inl (u3485 0))), (h1, .inr (7, [.ref (md 0), .ref (md 1), .int 0, .int 0, .int 0, .int (-1), .int 0, .int 0, .int 0, .int 0, .long 0, .ref (md 11), .ref (md 12), .ref (md 13), .ref (md 14), .ref (md 15), .ref (md 16), .ref (md 17), .ref (md 18), .ref (md 19), .ref (md 20), .ref (md 21), .ref (md 22), .ref (md 23), .ref (md 24), .ref (md 25), .ref (md 26), .ref (md 27), .ref (md 28), .int 0, .int 0, .int 0, .int 0, .int 0, .int 0, .int 0, .int 0, .int 0, .int 0, .int 0, .ref (md 40), .ref (md 41), .int 0, .int 0, .ref (md 44), .int 0, .int 0, .ref (md 47), .ref (md 48), .int 0, .ref (md 50), .ref (md 51), .ref (md 52), .ref (md 53), .ref (md 54), .int 0, .int 0, .ref (md 57), .ref (md 58)]))] := hD
      generalize upd f3495 (nI k).toNatClampNeg z3498 = f3499 at hP hD
      refine lv_iinc (v := nI (k + 1)) (lv' := [(1, .int (nI (k + 1))), (0, .ref h1)]) hx hb dX7_bringBack_21 hl (k := 0) rfl (nI_1 k) (by decide) rfl (fun ls hl => ?_)
      refine lv_goto (tgt := 2) hx hb dX7_bringBack_24 (by decide) ?_
      have hl := lv_sub (l' := [(1, .int (nI (k + 1))), (0, .ref h1)]) hl [0, 1] rfl
      apply ih (k := k + 1) (f3495 := f3499) <;> first | assumption | omega
def wo_c_M_culprit : List Cond := [.methodLink RX7 495 yX7_layAnswers, .instanceMethod yX7_layAnswers, .selects RX7 yX7_layAnswers yX7_layAnswers, .initialized RX7, .methodLink RX7 489 yX7_cases, .instanceMethod yX7_cases, .selects RX7 yX7_cases yX7_cases]
def wq_c_M_culprit : List Cond := .code yX7_culprit cX7_culprit 5 (some .int) :: (wo_c_M_culprit ++ (wq_k_X7_layAnswers ++ (wq_k_X7_cases_v2 ++ [])))
theorem gd_c_M_culprit : Gd wq_c_M_culprit := gd_c (gd_a (gd_o (by decide +kernel)) (gd_a gd_k_X7_layAnswers (gd_a gd_k_X7_cases_v2 gd_0)))
abbrev wc_c_M_culprit (cyB cyI cyJ cyZ cyO : ClassId) (h1 : Nat) (md : Nat → Nat) (g : Nat → Int32) (x1 : Int32) (x2 : Int32) : va_W := [(h1, .inr (7, [.ref (md 0), .ref (md 1), .int 0, .int 0, .int 0, .int (-1), .int 0, .int 0, .int 0, .int 0, .long 0, .ref (md 11), .ref (md 12), .ref (md 13), .ref (md 14), .ref (md 15), .ref (md 16), .ref (md 17), .ref (md 18), .ref (md 19), .ref (md 20), .ref (md 21), .ref (md 22), .ref (md 23), .ref (md 24), .ref (md 25), .ref (md 26), .ref (md 27), .ref (md 28), .int 0, .int 0, .int 0, .int 0, .int 0, .int 0, .int 0, .int 0, .int 0, .int 0, .int 0, .ref (md 40), .ref (md 41), .int 0, .int 0, .ref (md 44), .int 0, .int 0, .ref (md 47), .ref (md 48), .int 0, .ref (md 50), .ref (md 51), .ref (md 52), .ref (md 53), .ref (md 54), .int 0, .int 0, .ref (md 57), .ref (md 58)])), (md 12, .inl (cyI, 2, .inl (fun _ => 0))), (md 40, .inl (cyI, 520, .inl g)), (md 41, .inl (cyI, 520, .inl (fun _ => 0)))]
set_option maxHeartbeats 4000000 in
set_option maxRecDepth 100000 in
theorem c_M_culprit (l : Launch) (dC : Nat → ClassId) (dI : Nat → Nat → Nat) (cyB cyI cyJ cyZ cyO : ClassId) (h1 : Nat) (md : Nat → Nat) (g : Nat → Int32) (x1 : Int32) (x2 : Int32) (sz : Nat) (hg : AllZ g) : Met l yX7_culprit wq_c_M_culprit ({ frames := 2, cells := 0, slots := 0, locals := 43 }) (va_Pc [.ref h1, .int x1, .int x2] (cB (dC, dI) (kT cyB cyI cyJ cyZ cyO) (wc_c_M_culprit cyB cyI cyJ cyZ cyO h1 md g x1 x2) sz)) (va_Qi (fun (r : Int32) (_ : Unit) => r = -2) (fun (u : Unit) t => cE (dC, dI) (va_A (wc_c_M_culprit cyB cyI cyJ cyZ cyO h1 md g x1 x2) sz) ([]) t.heap) (va_A (wc_c_M_culprit cyB cyI cyJ cyZ cyO h1 md g x1 x2) sz)) 0 0 (va_A (wc_c_M_culprit cyB cyI cyJ cyZ cyO h1 md g x1 x2) sz) := by
  refine Met.ofW (cc := cX7_culprit) (maxL := 5) (ret := (some .int)) (by decide) rfl ?_
  intro p e s m args below meth c s₁ B hml hv
  obtain ⟨rfl, hsz, hP, hKN, hD0⟩ := hv
  have hx := B.exec
  have hb := B.bytes
  have hr := B.returns
  have hts := atoms_spec (ws := wq_c_M_culprit) B.pre
  have hown : s.vm.findClass RX7 = some m.cls := findClass_of_methodNamed B.named
  have hlocks := B.notSynchronized
  have hK := hKN.1
  have hfix : CallFix p m c cX7_culprit 5 s [.ref h1, .int x1, .int x2].toArray wq_c_M_culprit RX7 := ⟨hx, hb, hml, hown, hts⟩
  subst hsz
  have hD := hD0.self (sz := s.heap.size)
  generalize hAe : va_A (wc_c_M_culprit cyB cyI cyJ cyZ cyO h1 md g x1 x2) s.heap.size = A at hD ⊢
  have hA : ∀ q : Nat, s.heap.size ≤ q → A q := fun q h => by rw [← hAe]; exact Or.inr h
  have hS : va_S A s.heap s.heap [] := va_S.rf
  have hl := lv_entry ([.ref h1, .int x1, .int x2]) (n := 5) (Nat.le_of_ble_eq_true rfl)
  rw [lg_entry_eq]
  generalize (lg_sl ([.ref h1, .int x1, .int x2]) ++ List.replicate (5 - (lg_sl ([.ref h1, .int x1, .int x2])).length) Slot.unset).toArray = ls at hl ⊢
  have hl : lv_has ls 5 [(0, .ref h1), (1, .int x1), (2, .int x2)] := hl
  refine lv_aload_n hx hb dX7_culprit_0 rfl (lv_at hl 0 rfl) ?_
  refine gf_v (wr := []) (va_runV (As := []) (rest := []) hfix (k_X7_layAnswers l dC dI cyB cyI cyJ cyZ cyO h1 md g _ hg) (cwV 0 hts (gi_V (ow_m (k := 0) rfl) (ow_m (k := 1) rfl) (ow_m (k := 2) rfl) (ow_m (k := 3) rfl) (sb_c sb_l) gd_k_X7_layAnswers) rfl rfl rfl (by decide +kernel) ⟨Nat.le_of_ble_eq_true rfl, Nat.le_of_ble_eq_true rfl⟩) (g_preV hKN hP hD [0, 1, 2, 3] rfl (by decide) 0 7 rfl rfl) rfl rfl hl.1 rfl (lv_room (Nat.le_of_ble_eq_true rfl)) dX7_culprit_1 ⟨Nat.le_of_ble_eq_true rfl, Nat.le_of_ble_eq_true rfl⟩) hP hD hS hA [0, 1, 2, 3] [] rfl rfl (by decide) (by decide) (fun u3503 H locs qu3503 hP hD hS => ?_)
  have hP : va_P (dC, dI) vwCl [(h1, .inr (7, [.ref (md 0), .ref (md 1), .int 0, .int 0, .int 0, .int (-1), .int 0, .int 0, .int 0, .int 0, .long 0, .ref (md 11), .ref (md 12), .ref (md 13), .ref (md 14), .ref (md 15), .ref (md 16), .ref (md 17), .ref (md 18), .ref (md 19), .ref (md 20), .ref (md 21), .ref (md 22), .ref (md 23), .ref (md 24), .ref (md 25), .ref (md 26), .ref (md 27), .ref (md 28), .int 0, .int 0, .int 0, .int 0, .int 0, .int 0, .int 0, .int 0, .int 0, .int 0, .int 0, .ref (md 40), .ref (md 41), .int 0, .int 0, .ref (md 44), .int 0, .int 0, .ref (md 47), .ref (md 48), .int 0, .ref (md 50), .ref (md 51), .ref (md 52), .ref (md 53), .ref (md 54), .int 0, .int 0, .ref (md 57), .ref (md 58)])), (md 12, .inl (cyI, 2, .inl (fun _ => 0))), (md 40, .inl (cyI, 520, .inl (u3503 0))), (md 41, .inl (cyI, 520, .inl (u3503 1)))] H := hP
  have hD : va_D A [(h1, .inr (7, [.ref (md 0), .ref (md 1), .int 0, .int 0, .int 0, .int (-1), .int 0, .int 0, .int 0, .int 0, .long 0, .ref (md 11), .ref (md 12), .ref (md 13), .ref (md 14), .ref (md 15), .ref (md 16), .ref (md 17), .ref (md 18), .ref (md 19), .ref (md 20), .ref (md 21), .ref (md 22), .ref (md 23), .ref (md 24), .ref (md 25), .ref (md 26), .ref (md 27), .ref (md 28), .int 0, .int 0, .int 0, .int 0, .int 0, .int 0, .int 0, .int 0, .int 0, .int 0, .int 0, .ref (md 40), .ref (md 41), .int 0, .int 0, .ref (md 44), .int 0, .int 0, .ref (md 47), .ref (md 48), .int 0, .ref (md 50), .ref (md 51), .ref (md 52), .ref (md 53), .ref (md 54), .int 0, .int 0, .ref (md 57), .ref (md 58)])), (md 12, .inl (cyI, 2, .inl (fun _ => 0))), (md 40, .inl (cyI, 520, .inl (u3503 0))), (md 41, .inl (cyI, 520, .inl (u3503 1)))] := hD
  refine lv_iload_n hx hb dX7_culprit_4 rfl (lv_at hl 1 rfl) ?_
  refine lv_istore_n (lv' := [(3, .int x1), (0, .ref h1), (1, .int x1), (2, .int x2)]) hx hb dX7_culprit_5 rfl hl (by decide) rfl (fun ls hl => ?_)
  refine lv_iconst (v := 0) hx hb dX7_culprit_6 (by decide) ?_
  refine lv_istore (lv' := [(4, .int 0), (3, .int x1), (0, .ref h1), (1, .int x1), (2, .int x2)]) hx hb dX7_culprit_7 hl (by decide) rfl (fun ls hl => ?_)
  refine lv_iload hx hb dX7_culprit_9 (lv_at hl 0 rfl) ?_
  refine lv_aload_n hx hb dX7_culprit_11 rfl (lv_at hl 2 rfl) ?_
  refine gf_i (wr := [(md 40, .inl (cyI, 520, .inl (u3503 0))), (md 41, .inl (cyI, 520, .inl (u3503 1)))]) (va_runV (As := []) (rest := [.int 0]) hfix (k_X7_cases_v2 l dC dI cyB cyI cyJ cyZ cyO h1 md _) (cwV 0 hts (gi_V (ow_m (k := 4) rfl) (ow_m (k := 5) rfl) (ow_m (k := 6) rfl) (ow_m (k := 3) rfl) (sb_c (sb_r sb_l)) gd_k_X7_cases_v2) rfl rfl rfl (by decide +kernel) ⟨Nat.le_of_ble_eq_true rfl, Nat.le_of_ble_eq_true rfl⟩) (g_preV hKN hP hD [0, 1] rfl (by decide) 0 7 rfl rfl) rfl rfl hl.1 rfl (lv_room (Nat.le_of_ble_eq_true rfl)) dX7_culprit_12 ⟨Nat.le_of_ble_eq_true rfl, Nat.le_of_ble_eq_true rfl⟩) hP hD hS hA [0, 1] [2, 3] rfl rfl (by decide) (by decide) (fun r3505 u3506 H locs qu3506 hP hD hS => ?_)
  have hP : va_P (dC, dI) vwCl [(md 40, .inl (cyI, 520, .inl (u3503 0))), (md 41, .inl (cyI, 520, .inl (u3503 1))), (h1, .inr (7, [.ref (md 0), .ref (md 1), .int 0, .int 0, .int 0, .int (-1), .int 0, .int 0, .int 0, .int 0, .long 0, .ref (md 11), .ref (md 12), .ref (md 13), .ref (md 14), .ref (md 15), .ref (md 16), .ref (md 17), .ref (md 18), .ref (md 19), .ref (md 20), .ref (md 21), .ref (md 22), .ref (md 23), .ref (md 24), .ref (md 25), .ref (md 26), .ref (md 27), .ref (md 28), .int 0, .int 0, .int 0, .int 0, .int 0, .int 0, .int 0, .int 0, .int 0, .int 0, .int 0, .ref (md 40), .ref (md 41), .int 0, .int 0, .ref (md 44), .int 0, .int 0, .ref (md 47), .ref (md 48), .int 0, .ref (md 50), .ref (md 51), .ref (md 52), .ref (md 53), .ref (md 54), .int 0, .int 0, .ref (md 57), .ref (md 58)])), (md 12, .inl (cyI, 2, .inl (fun _ => 0)))] H := hP
  have hD : va_D A [(md 40, .inl (cyI, 520, .inl (u3503 0))), (md 41, .inl (cyI, 520, .inl (u3503 1))), (h1, .inr (7, [.ref (md 0), .ref (md 1), .int 0, .int 0, .int 0, .int (-1), .int 0, .int 0, .int 0, .int 0, .long 0, .ref (md 11), .ref (md 12), .ref (md 13), .ref (md 14), .ref (md 15), .ref (md 16), .ref (md 17), .ref (md 18), .ref (md 19), .ref (md 20), .ref (md 21), .ref (md 22), .ref (md 23), .ref (md 24), .ref (md 25), .ref (md 26), .ref (md 27), .ref (md 28), .int 0, .int 0, .int 0, .int 0, .int 0, .int 0, .int 0, .int 0, .int 0, .int 0, .int 0, .ref (md 40), .ref (md 41), .int 0, .int 0, .ref (md 44), .int 0, .int 0, .ref (md 47), .ref (md 48), .int 0, .ref (md 50), .ref (md 51), .ref (md 52), .ref (md 53), .ref (md 54), .int 0, .int 0, .ref (md 57), .ref (md 58)])), (md 12, .inl (cyI, 2, .inl (fun _ => 0)))] := hD
  refine tp_c (w := 0) qu3506 ?_
  refine lv_icmp_ge (tgt := 53) hx hb dX7_culprit_15 (by decide) (fun _ => ?_) (fun c3507 => absurd (by decide) c3507)
  refine lv_bipush (v := (-2)) hx hb dX7_culprit_53 (by decide) ?_
  exact W.iret (v := (-2)) hx hb hr (fun t ht hW => ⟨⟨(-2), (), rfl, rfl, cE.nil⟩, hS.F ht⟩) hS.2.2 dX7_culprit_55
def wo_k_X7_bringBack_v8 : List Cond := [.fieldLink RX7 76 "ReplicaChainModel" "all" "[I", .fieldLink RX7 79 "ReplicaChainModel" "kept" "[I"]
def wq_k_X7_bringBack_v8 : List Cond := .code yX7_bringBack cX7_bringBack 2 none :: (wo_k_X7_bringBack_v8 ++ (wsX70 ++ []))
theorem gd_k_X7_bringBack_v8 : Gd wq_k_X7_bringBack_v8 := gd_c (gd_a (gd_o (by decide +kernel)) (gd_a gd_u gd_0))
abbrev wc_k_X7_bringBack_v8 (cyB cyI cyJ cyZ cyO : ClassId) (md : Nat → Nat) (g : Nat → Int32) (u3526 : Nat → Nat → Int32) (h1 : Nat) : va_W := [(md 40, .inl (cyI, 520, .inl g)), (md 41, .inl (cyI, 520, .inl (u3526 0))), (h1, .inr (7, [.ref (md 0), .ref (md 1), .int 0, .int 0, .int 0, .int (-1), .int 0, .int 0, .int 0, .int 0, .long 0, .ref (md 11), .ref (md 12), .ref (md 13), .ref (md 14), .ref (md 15), .ref (md 16), .ref (md 17), .ref (md 18), .ref (md 19), .ref (md 20), .ref (md 21), .ref (md 22), .ref (md 23), .ref (md 24), .ref (md 25), .ref (md 26), .ref (md 27), .ref (md 28), .int 0, .int 0, .int 0, .int 0, .int 0, .int 0, .int 0, .int 0, .int 0, .int 0, .int 0, .ref (md 40), .ref (md 41), .int 0, .int 0, .ref (md 44), .int 0, .int 0, .ref (md 47), .ref (md 48), .int 0, .ref (md 50), .ref (md 51), .ref (md 52), .ref (md 53), .ref (md 54), .int 0, .int 0, .ref (md 57), .ref (md 58)]))]
set_option maxHeartbeats 4000000 in
set_option maxRecDepth 100000 in
theorem k_X7_bringBack_v8 (l : Launch) (dC : Nat → ClassId) (dI : Nat → Nat → Nat) (cyB cyI cyJ cyZ cyO : ClassId) (md : Nat → Nat) (g : Nat → Int32) (u3526 : Nat → Nat → Int32) (h1 : Nat) (sz : Nat) (hg : AllZ g) : Met l yX7_bringBack wq_k_X7_bringBack_v8 ({ frames := 0, cells := 0, slots := 0, locals := 0 }) (va_Pc [.ref h1] (cB (dC, dI) (kT cyB cyI cyJ cyZ cyO) (wc_k_X7_bringBack_v8 cyB cyI cyJ cyZ cyO md g u3526 h1) sz)) (va_Qv (fun _ => True) (fun (u : Nat → Nat → Int32) t => cE (dC, dI) (va_A (wc_k_X7_bringBack_v8 cyB cyI cyJ cyZ cyO md g u3526 h1) sz) ([(md 40, .inl (cyI, 520, .inl (u 0))), (md 41, .inl (cyI, 520, .inl (u3526 0))), (h1, .inr (7, [.ref (md 0), .ref (md 1), .int 0, .int 0, .int 0, .int (-1), .int 0, .int 0, .int 0, .int 0, .long 0, .ref (md 11), .ref (md 12), .ref (md 13), .ref (md 14), .ref (md 15), .ref (md 16), .ref (md 17), .ref (md 18), .ref (md 19), .ref (md 20), .ref (md 21), .ref (md 22), .ref (md 23), .ref (md 24), .ref (md 25), .ref (md 26), .ref (md 27), .ref (md 28), .int 0, .int 0, .int 0, .int 0, .int 0, .int 0, .int 0, .int 0, .int 0, .int 0, .int 0, .ref (md 40), .ref (md 41), .int 0, .int 0, .ref (md 44), .int 0, .int 0, .ref (md 47), .ref (md 48), .int 0, .ref (md 50), .ref (md 51), .ref (md 52), .ref (md 53), .ref (md 54), .int 0, .int 0, .ref (md 57), .ref (md 58)]))]) t.heap) (va_A (wc_k_X7_bringBack_v8 cyB cyI cyJ cyZ cyO md g u3526 h1) sz)) 0 0 (va_A (wc_k_X7_bringBack_v8 cyB cyI cyJ cyZ cyO md g u3526 h1) sz) := by
  refine Met.ofW (cc := cX7_bringBack) (maxL := 2) (ret := none) (by decide) rfl ?_
  intro p e s m args below meth c s₁ B hml hv
  obtain ⟨rfl, hsz, hP, hKN, hD0⟩ := hv
  have hx := B.exec
  have hb := B.bytes
  have hr := B.returns
  have hts := atoms_spec (ws := wq_k_X7_bringBack_v8) B.pre
  have hown : s.vm.findClass RX7 = some m.cls := findClass_of_methodNamed B.named
  have hlocks := B.notSynchronized
  have hK := hKN.1
  have hfix : CallFix p m c cX7_bringBack 2 s [.ref h1].toArray wq_k_X7_bringBack_v8 RX7 := ⟨hx, hb, hml, hown, hts⟩
  have hi7 : ∀ w ∈ wsX70, w ∈ wq_k_X7_bringBack_v8 := (sb_c sb_l)
  subst hsz
  have hD := hD0.self (sz := s.heap.size)
  generalize hAe : va_A (wc_k_X7_bringBack_v8 cyB cyI cyJ cyZ cyO md g u3526 h1) s.heap.size = A at hD ⊢
  have hA : ∀ q : Nat, s.heap.size ≤ q → A q := fun q h => by rw [← hAe]; exact Or.inr h
  have hS : va_S A s.heap s.heap [] := va_S.rf
  have hl := lv_entry ([.ref h1]) (n := 2) (Nat.le_of_ble_eq_true rfl)
  rw [lg_entry_eq]
  generalize (lg_sl ([.ref h1]) ++ List.replicate (2 - (lg_sl ([.ref h1])).length) Slot.unset).toArray = ls at hl ⊢
  have hl : lv_has ls 2 [(0, .ref h1)] := hl
  refine lv_iconst (v := 0) hx hb dX7_bringBack_0 (by decide) ?_
  refine lv_istore_n (lv' := [(1, .int 0), (0, .ref h1)]) hx hb dX7_bringBack_1 rfl hl (by decide) rfl (fun ls hl => ?_)
  refine w_gen (fun H locs ls hP hS hl => ?_) hP hS hl
  obtain ⟨k, hk, hl2⟩ : ∃ k : Nat, k + 520 = 520 ∧ lv_has ls 2 [(1, .int (nI k)), (0, .ref h1)] := ⟨0, Nat.zero_add _, hl⟩
  obtain ⟨n, hkn⟩ : ∃ n : Nat, k + n = 520 := ⟨520, hk⟩
  obtain ⟨f3536, hP2, hD2⟩ : ∃ (f3536 : Nat → Int32), va_P (dC, dI) vwCl [(md 40, .inl (cyI, 520, .inl f3536)), (md 41, .inl (cyI, 520, .inl (u3526 0))), (h1, .inr (7, [.ref (md 0), .ref (md 1), .int 0, .int 0, .int 0, .int (-1), .int 0, .int 0, .int 0, .int 0, .long 0, .ref (md 11), .ref (md 12), .ref (md 13), .ref (md 14), .ref (md 15), .ref (md 16), .ref (md 17), .ref (md 18), .ref (md 19), .ref (md 20), .ref (md 21), .ref (md 22), .ref (md 23), .ref (md 24), .ref (md 25), .ref (md 26), .ref (md 27), .ref (md 28), .int 0, .int 0, .int 0, .int 0, .int 0, .int 0, .int 0, .int 0, .int 0, .int 0, .int 0, .ref (md 40), .ref (md 41), .int 0, .int 0, .ref (md 44), .int 0, .int 0, .ref (md 47), .ref (md 48), .int 0, .ref (md 50), .ref (md 51), .ref (md 52), .ref (md 53), .ref (md 54), .int 0, .int 0, .ref (md 57), .ref (md 58)]))] H ∧ va_D A [(md 40, .inl (cyI, 520, .inl f3536)), (md 41, .inl (cyI, 520, .inl (u3526 0))), (h1, .inr (7, [.ref (md 0), .ref (md 1), .int 0, .int 0, .int 0, .int (-1), .int 0, .int 0, .int 0, .int 0, .long 0, .ref (md 11), .ref (md 12), .ref (md 13), .ref (md 14), .ref (md 15), .ref (md 16), .ref (md 17), .ref (md 18), .ref (md 19), .ref (md 20), .ref (md 21), .ref (md 22), .ref (md 23), .ref (md 24), .ref (md 25), .ref (md 26), .ref (md 27), .ref (md 28), .int 0, .int 0, .int 0, .int 0, .int 0, .int 0, .int 0, .int 0, .int 0, .int 0, .int 0, .ref (md 40), .ref (md 41), .int 0, .int 0, .ref (md 44), .int 0, .int 0, .ref (md 47), .ref (md 48), .int 0, .ref (md 50), .ref (md 51), .ref (md 52), .ref (md 53), .ref (md 54), .int 0, .int 0, .ref (md 57), .ref (md 58)]))] := ⟨_, hP, hD⟩
  clear hk hP hl
  have hP := hP2
  have hD := hD2
  have hl := hl2
  clear hP2 hD2 hl2
  induction n generalizing k f3536 H locs ls with
  | zero =>
    obtain rfl : k = 520 := by omega
    refine lv_iload_n hx hb dX7_bringBack_2 rfl (lv_at hl 0 rfl) ?_
    refine lv_sipush (v := 520) hx hb dX7_bringBack_3 (by decide) ?_
    refine lv_icmp_ge (tgt := 27) hx hb dX7_bringBack_6 (by decide) (fun _ => ?_) (fun c3537 => absurd (by decide) c3537)
    exact W.vret hx hb hr (fun t ht hW => ⟨⟨(fun _ => f3536), rfl, trivial, cE.of ht hP hD [0, 1, 2] (by decide) rfl⟩, hS.F ht⟩) hS.2.2 dX7_bringBack_27
  | succ n ih =>
    refine lv_iload_n hx hb dX7_bringBack_2 rfl (lv_at hl 0 rfl) ?_
    refine lv_sipush (v := 520) hx hb dX7_bringBack_3 (by decide) ?_
    refine lv_icmp_ge (tgt := 27) hx hb dX7_bringBack_6 (by decide) (fun c3538 => ?_) (fun c3538 => ?_)
    · have c3538 := i_le (a := 520) (b := (k : Int)) c3538 (by decide) (nI_toInt (by omega))
      exfalso; omega
    · have c3538 := i_nle (a := 520) (b := (k : Int)) c3538 (by decide) (nI_toInt (by omega))
      refine lv_aload_n hx hb dX7_bringBack_9 rfl (lv_at hl 1 rfl) ?_
      refine va_get (D := (dC, dI)) (ci := 7) (v := .ref (md 40)) (C := RX7) (T := TX7) (N := 59) hx hb hts hi7 hown hK hP 2 rfl rfl 40 (by decide) (hts _ (ow_m (k := 0) rfl)) (fun _ h9 => h9) rfl dX7_bringBack_10 ?_
      refine lv_iload_n hx hb dX7_bringBack_13 rfl (lv_at hl 0 rfl) ?_
      refine lv_aload_n hx hb dX7_bringBack_14 rfl (lv_at hl 1 rfl) ?_
      refine va_get (D := (dC, dI)) (ci := 7) (v := .ref (md 41)) (C := RX7) (T := TX7) (N := 59) hx hb hts hi7 hown hK hP 2 rfl rfl 41 (by decide) (hts _ (ow_m (k := 1) rfl)) (fun _ h9 => h9) rfl dX7_bringBack_15 ?_
      refine lv_iload_n hx hb dX7_bringBack_18 rfl (lv_at hl 0 rfl) ?_
      refine va_iald hx hb hK hP 1 1 rfl rfl (vp_i (nI_toInt (by omega)) (by omega) (by omega)) dX7_bringBack_19 ?_
      refine lv_topi (fun z3539 ez3539 => ?_)
      refine va_iast hx hb hK hP hD hS 0 1 rfl rfl (vp_i (nI_toInt (by omega)) (by omega) (by omega)) dX7_bringBack_20 (fun H locs hP hD hS => ?_)
      have hP : va_P (dC, dI) vwCl [(md 40, .inl (cyI, 520, .inl (upd f3536 (nI k).toNatClampNeg z3539))), (md 41, .inl (cyI, 520, .inl (u3526 0))), (h1, .inr (7, [.ref (md 0), .ref (md 1), .int 0, .int 0, .int 0, .int (-1), .int 0, .int 0, .int 0, .int 0, .long 0, .ref (md 11), .ref (md 12), .ref (md 13), .ref (md 14), .ref (md 15), .ref (md 16), .ref (md 17), .ref (md 18), .ref (md 19), .ref (md 20), .ref (md 21), .ref (md 22), .ref (md 23), .ref (md 24), .ref (md 25), .ref (md 26), .ref (md 27), .ref (md 28), .int 0, .int 0, .int 0, .int 0, .int 0, .int 0, .int 0, .int 0, .int 0, .int 0, .int 0, .ref (md 40), .ref (md 41), .int 0, .int 0, .ref (md 44), .int 0, .int 0, .ref (md 47), .ref (md 48), .int 0, .ref (md 50), .ref (md 51), .ref (md 52), .ref (md 53), .ref (md 54), .int 0, .int 0, .ref (md 57), .ref (md 58)]))] H := hP
      have hD : va_D A [(md 40, .inl (cyI, 520, .inl (upd f3536 (nI k).toNatClampNeg z3539))), (md 41, .inl (cyI, 520, .inl (u3526 0))), (h1, .inr (7, [.ref (md 0), .ref (md 1), .int 0, .int 0, .int 0, .int (-1), .int 0, .int 0, .int 0, .int 0, .long 0, .ref (md 11), .ref (md 12), .ref (md 13), .ref (md 14), .ref (md 15), .ref (md 16), .ref (md 17), .ref (md 18), .ref (md 19), .ref (md 20), .ref (md 21), .ref (md 22), .ref (md 23), .ref (md 24), .ref (md 25), .ref (md 26), .ref (md 27), .ref (md 28), .int 0, .int 0, .int 0, .int 0, .int 0, .int 0, .int 0, .int 0, .int 0, .int 0, .int 0, .ref (md 40), .ref (md 41), .int 0, .int 0, .ref (md 44), .int 0, .int 0, .ref (md 47), .ref (md 48), .int 0, .ref (md 50), .ref (md 51), .ref (md 52), .ref (md 53), .ref (md 54), .int 0, .int 0, .ref (md 57), .ref (md 58)]))] := hD
      generalize upd f3536 (nI k).toNatClampNeg z3539 = f3540 at hP hD
      refine lv_iinc (v := nI (k + 1)) (lv' := [(1, .int (nI (k + 1))), (0, .ref h1)]) hx hb dX7_bringBack_21 hl (k := 0) rfl (nI_1 k) (by decide) rfl (fun ls hl => ?_)
      refine lv_goto (tgt := 2) hx hb dX7_bringBack_24 (by decide) ?_
      have hl := lv_sub (l' := [(1, .int (nI (k + 1))), (0, .ref h1)]) hl [0, 1] rfl
      apply ih (k := k + 1) (f3536 := f3540) <;> first | assumption | omega
def wo_k_X7_bringBack_v9 : List Cond := [.fieldLink RX7 76 "ReplicaChainModel" "all" "[I", .fieldLink RX7 79 "ReplicaChainModel" "kept" "[I"]
def wq_k_X7_bringBack_v9 : List Cond := .code yX7_bringBack cX7_bringBack 2 none :: (wo_k_X7_bringBack_v9 ++ (wsX70 ++ []))
theorem gd_k_X7_bringBack_v9 : Gd wq_k_X7_bringBack_v9 := gd_c (gd_a (gd_o (by decide +kernel)) (gd_a gd_u gd_0))
abbrev wc_k_X7_bringBack_v9 (cyB cyI cyJ cyZ cyO : ClassId) (md : Nat → Nat) (g : Nat → Int32) (u3555 : Nat → Nat → Int32) (h1 : Nat) : va_W := [(md 40, .inl (cyI, 520, .inl g)), (md 41, .inl (cyI, 520, .inl (u3555 0))), (h1, .inr (7, [.ref (md 0), .ref (md 1), .int 0, .int 0, .int 0, .int (-1), .int 0, .int 0, .int 0, .int 0, .long 0, .ref (md 11), .ref (md 12), .ref (md 13), .ref (md 14), .ref (md 15), .ref (md 16), .ref (md 17), .ref (md 18), .ref (md 19), .ref (md 20), .ref (md 21), .ref (md 22), .ref (md 23), .ref (md 24), .ref (md 25), .ref (md 26), .ref (md 27), .ref (md 28), .int 0, .int 0, .int 0, .int 0, .int 0, .int 0, .int 0, .int 0, .int 0, .int 0, .int 0, .ref (md 40), .ref (md 41), .int 0, .int 0, .ref (md 44), .int 0, .int 0, .ref (md 47), .ref (md 48), .int 0, .ref (md 50), .ref (md 51), .ref (md 52), .ref (md 53), .ref (md 54), .int 0, .int 0, .ref (md 57), .ref (md 58)]))]
set_option maxHeartbeats 4000000 in
set_option maxRecDepth 100000 in
theorem k_X7_bringBack_v9 (l : Launch) (dC : Nat → ClassId) (dI : Nat → Nat → Nat) (cyB cyI cyJ cyZ cyO : ClassId) (md : Nat → Nat) (g : Nat → Int32) (u3555 : Nat → Nat → Int32) (h1 : Nat) (sz : Nat) (hg : AllZ g) : Met l yX7_bringBack wq_k_X7_bringBack_v9 ({ frames := 0, cells := 0, slots := 0, locals := 0 }) (va_Pc [.ref h1] (cB (dC, dI) (kT cyB cyI cyJ cyZ cyO) (wc_k_X7_bringBack_v9 cyB cyI cyJ cyZ cyO md g u3555 h1) sz)) (va_Qv (fun _ => True) (fun (u : Nat → Nat → Int32) t => cE (dC, dI) (va_A (wc_k_X7_bringBack_v9 cyB cyI cyJ cyZ cyO md g u3555 h1) sz) ([(md 40, .inl (cyI, 520, .inl (u 0))), (md 41, .inl (cyI, 520, .inl (u3555 0))), (h1, .inr (7, [.ref (md 0), .ref (md 1), .int 0, .int 0, .int 0, .int (-1), .int 0, .int 0, .int 0, .int 0, .long 0, .ref (md 11), .ref (md 12), .ref (md 13), .ref (md 14), .ref (md 15), .ref (md 16), .ref (md 17), .ref (md 18), .ref (md 19), .ref (md 20), .ref (md 21), .ref (md 22), .ref (md 23), .ref (md 24), .ref (md 25), .ref (md 26), .ref (md 27), .ref (md 28), .int 0, .int 0, .int 0, .int 0, .int 0, .int 0, .int 0, .int 0, .int 0, .int 0, .int 0, .ref (md 40), .ref (md 41), .int 0, .int 0, .ref (md 44), .int 0, .int 0, .ref (md 47), .ref (md 48), .int 0, .ref (md 50), .ref (md 51), .ref (md 52), .ref (md 53), .ref (md 54), .int 0, .int 0, .ref (md 57), .ref (md 58)]))]) t.heap) (va_A (wc_k_X7_bringBack_v9 cyB cyI cyJ cyZ cyO md g u3555 h1) sz)) 0 0 (va_A (wc_k_X7_bringBack_v9 cyB cyI cyJ cyZ cyO md g u3555 h1) sz) := by
  refine Met.ofW (cc := cX7_bringBack) (maxL := 2) (ret := none) (by decide) rfl ?_
  intro p e s m args below meth c s₁ B hml hv
  obtain ⟨rfl, hsz, hP, hKN, hD0⟩ := hv
  have hx := B.exec
  have hb := B.bytes
  have hr := B.returns
  have hts := atoms_spec (ws := wq_k_X7_bringBack_v9) B.pre
  have hown : s.vm.findClass RX7 = some m.cls := findClass_of_methodNamed B.named
  have hlocks := B.notSynchronized
  have hK := hKN.1
  have hfix : CallFix p m c cX7_bringBack 2 s [.ref h1].toArray wq_k_X7_bringBack_v9 RX7 := ⟨hx, hb, hml, hown, hts⟩
  have hi7 : ∀ w ∈ wsX70, w ∈ wq_k_X7_bringBack_v9 := (sb_c sb_l)
  subst hsz
  have hD := hD0.self (sz := s.heap.size)
  generalize hAe : va_A (wc_k_X7_bringBack_v9 cyB cyI cyJ cyZ cyO md g u3555 h1) s.heap.size = A at hD ⊢
  have hA : ∀ q : Nat, s.heap.size ≤ q → A q := fun q h => by rw [← hAe]; exact Or.inr h
  have hS : va_S A s.heap s.heap [] := va_S.rf
  have hl := lv_entry ([.ref h1]) (n := 2) (Nat.le_of_ble_eq_true rfl)
  rw [lg_entry_eq]
  generalize (lg_sl ([.ref h1]) ++ List.replicate (2 - (lg_sl ([.ref h1])).length) Slot.unset).toArray = ls at hl ⊢
  have hl : lv_has ls 2 [(0, .ref h1)] := hl
  refine lv_iconst (v := 0) hx hb dX7_bringBack_0 (by decide) ?_
  refine lv_istore_n (lv' := [(1, .int 0), (0, .ref h1)]) hx hb dX7_bringBack_1 rfl hl (by decide) rfl (fun ls hl => ?_)
  refine w_gen (fun H locs ls hP hS hl => ?_) hP hS hl
  obtain ⟨k, hk, hl2⟩ : ∃ k : Nat, k + 520 = 520 ∧ lv_has ls 2 [(1, .int (nI k)), (0, .ref h1)] := ⟨0, Nat.zero_add _, hl⟩
  obtain ⟨n, hkn⟩ : ∃ n : Nat, k + n = 520 := ⟨520, hk⟩
  obtain ⟨f3565, hP2, hD2⟩ : ∃ (f3565 : Nat → Int32), va_P (dC, dI) vwCl [(md 40, .inl (cyI, 520, .inl f3565)), (md 41, .inl (cyI, 520, .inl (u3555 0))), (h1, .inr (7, [.ref (md 0), .ref (md 1), .int 0, .int 0, .int 0, .int (-1), .int 0, .int 0, .int 0, .int 0, .long 0, .ref (md 11), .ref (md 12), .ref (md 13), .ref (md 14), .ref (md 15), .ref (md 16), .ref (md 17), .ref (md 18), .ref (md 19), .ref (md 20), .ref (md 21), .ref (md 22), .ref (md 23), .ref (md 24), .ref (md 25), .ref (md 26), .ref (md 27), .ref (md 28), .int 0, .int 0, .int 0, .int 0, .int 0, .int 0, .int 0, .int 0, .int 0, .int 0, .int 0, .ref (md 40), .ref (md 41), .int 0, .int 0, .ref (md 44), .int 0, .int 0, .ref (md 47), .ref (md 48), .int 0, .ref (md 50), .ref (md 51), .ref (md 52), .ref (md 53), .ref (md 54), .int 0, .int 0, .ref (md 57), .ref (md 58)]))] H ∧ va_D A [(md 40, .inl (cyI, 520, .inl f3565)), (md 41, .inl (cyI, 520, .inl (u3555 0))), (h1, .inr (7, [.ref (md 0), .ref (md 1), .int 0, .int 0, .int 0, .int (-1), .int 0, .int 0, .int 0, .int 0, .long 0, .ref (md 11), .ref (md 12), .ref (md 13), .ref (md 14), .ref (md 15), .ref (md 16), .ref (md 17), .ref (md 18), .ref (md 19), .ref (md 20), .ref (md 21), .ref (md 22), .ref (md 23), .ref (md 24), .ref (md 25), .ref (md 26), .ref (md 27), .ref (md 28), .int 0, .int 0, .int 0, .int 0, .int 0, .int 0, .int 0, .int 0, .int 0, .int 0, .int 0, .ref (md 40), .ref (md 41), .int 0, .int 0, .ref (md 44), .int 0, .int 0, .ref (md 47), .ref (md 48), .int 0, .ref (md 50), .ref (md 51), .ref (md 52), .ref (md 53), .ref (md 54), .int 0, .int 0, .ref (md 57), .ref (md 58)]))] := ⟨_, hP, hD⟩
  clear hk hP hl
  have hP := hP2
  have hD := hD2
  have hl := hl2
  clear hP2 hD2 hl2
  induction n generalizing k f3565 H locs ls with
  | zero =>
    obtain rfl : k = 520 := by omega
    refine lv_iload_n hx hb dX7_bringBack_2 rfl (lv_at hl 0 rfl) ?_
    refine lv_sipush (v := 520) hx hb dX7_bringBack_3 (by decide) ?_
    refine lv_icmp_ge (tgt := 27) hx hb dX7_bringBack_6 (by decide) (fun _ => ?_) (fun c3566 => absurd (by decide) c3566)
    exact W.vret hx hb hr (fun t ht hW => ⟨⟨(fun _ => f3565), rfl, trivial, cE.of ht hP hD [0, 1, 2] (by decide) rfl⟩, hS.F ht⟩) hS.2.2 dX7_bringBack_27
  | succ n ih =>
    refine lv_iload_n hx hb dX7_bringBack_2 rfl (lv_at hl 0 rfl) ?_
    refine lv_sipush (v := 520) hx hb dX7_bringBack_3 (by decide) ?_
    refine lv_icmp_ge (tgt := 27) hx hb dX7_bringBack_6 (by decide) (fun c3567 => ?_) (fun c3567 => ?_)
    · have c3567 := i_le (a := 520) (b := (k : Int)) c3567 (by decide) (nI_toInt (by omega))
      exfalso; omega
    · have c3567 := i_nle (a := 520) (b := (k : Int)) c3567 (by decide) (nI_toInt (by omega))
      refine lv_aload_n hx hb dX7_bringBack_9 rfl (lv_at hl 1 rfl) ?_
      refine va_get (D := (dC, dI)) (ci := 7) (v := .ref (md 40)) (C := RX7) (T := TX7) (N := 59) hx hb hts hi7 hown hK hP 2 rfl rfl 40 (by decide) (hts _ (ow_m (k := 0) rfl)) (fun _ h9 => h9) rfl dX7_bringBack_10 ?_
      refine lv_iload_n hx hb dX7_bringBack_13 rfl (lv_at hl 0 rfl) ?_
      refine lv_aload_n hx hb dX7_bringBack_14 rfl (lv_at hl 1 rfl) ?_
      refine va_get (D := (dC, dI)) (ci := 7) (v := .ref (md 41)) (C := RX7) (T := TX7) (N := 59) hx hb hts hi7 hown hK hP 2 rfl rfl 41 (by decide) (hts _ (ow_m (k := 1) rfl)) (fun _ h9 => h9) rfl dX7_bringBack_15 ?_
      refine lv_iload_n hx hb dX7_bringBack_18 rfl (lv_at hl 0 rfl) ?_
      refine va_iald hx hb hK hP 1 1 rfl rfl (vp_i (nI_toInt (by omega)) (by omega) (by omega)) dX7_bringBack_19 ?_
      refine lv_topi (fun z3568 ez3568 => ?_)
      refine va_iast hx hb hK hP hD hS 0 1 rfl rfl (vp_i (nI_toInt (by omega)) (by omega) (by omega)) dX7_bringBack_20 (fun H locs hP hD hS => ?_)
      have hP : va_P (dC, dI) vwCl [(md 40, .inl (cyI, 520, .inl (upd f3565 (nI k).toNatClampNeg z3568))), (md 41, .inl (cyI, 520, .inl (u3555 0))), (h1, .inr (7, [.ref (md 0), .ref (md 1), .int 0, .int 0, .int 0, .int (-1), .int 0, .int 0, .int 0, .int 0, .long 0, .ref (md 11), .ref (md 12), .ref (md 13), .ref (md 14), .ref (md 15), .ref (md 16), .ref (md 17), .ref (md 18), .ref (md 19), .ref (md 20), .ref (md 21), .ref (md 22), .ref (md 23), .ref (md 24), .ref (md 25), .ref (md 26), .ref (md 27), .ref (md 28), .int 0, .int 0, .int 0, .int 0, .int 0, .int 0, .int 0, .int 0, .int 0, .int 0, .int 0, .ref (md 40), .ref (md 41), .int 0, .int 0, .ref (md 44), .int 0, .int 0, .ref (md 47), .ref (md 48), .int 0, .ref (md 50), .ref (md 51), .ref (md 52), .ref (md 53), .ref (md 54), .int 0, .int 0, .ref (md 57), .ref (md 58)]))] H := hP
      have hD : va_D A [(md 40, .inl (cyI, 520, .inl (upd f3565 (nI k).toNatClampNeg z3568))), (md 41, .inl (cyI, 520, .inl (u3555 0))), (h1, .inr (7, [.ref (md 0), .ref (md 1), .int 0, .int 0, .int 0, .int (-1), .int 0, .int 0, .int 0, .int 0, .long 0, .ref (md 11), .ref (md 12), .ref (md 13), .ref (md 14), .ref (md 15), .ref (md 16), .ref (md 17), .ref (md 18), .ref (md 19), .ref (md 20), .ref (md 21), .ref (md 22), .ref (md 23), .ref (md 24), .ref (md 25), .ref (md 26), .ref (md 27), .ref (md 28), .int 0, .int 0, .int 0, .int 0, .int 0, .int 0, .int 0, .int 0, .int 0, .int 0, .int 0, .ref (md 40), .ref (md 41), .int 0, .int 0, .ref (md 44), .int 0, .int 0, .ref (md 47), .ref (md 48), .int 0, .ref (md 50), .ref (md 51), .ref (md 52), .ref (md 53), .ref (md 54), .int 0, .int 0, .ref (md 57), .ref (md 58)]))] := hD
      generalize upd f3565 (nI k).toNatClampNeg z3568 = f3569 at hP hD
      refine lv_iinc (v := nI (k + 1)) (lv' := [(1, .int (nI (k + 1))), (0, .ref h1)]) hx hb dX7_bringBack_21 hl (k := 0) rfl (nI_1 k) (by decide) rfl (fun ls hl => ?_)
      refine lv_goto (tgt := 2) hx hb dX7_bringBack_24 (by decide) ?_
      have hl := lv_sub (l' := [(1, .int (nI (k + 1))), (0, .ref h1)]) hl [0, 1] rfl
      apply ih (k := k + 1) (f3565 := f3569) <;> first | assumption | omega
def wo_k_X7_fits : List Cond := [.methodLink RX7 495 yX7_layAnswers, .instanceMethod yX7_layAnswers, .selects RX7 yX7_layAnswers yX7_layAnswers, .initialized RX7, .methodLink RX7 489 yX7_cases, .instanceMethod yX7_cases, .selects RX7 yX7_cases yX7_cases]
def wq_k_X7_fits : List Cond := .code yX7_fits cX7_fits 4 (some .int) :: (wo_k_X7_fits ++ (wq_k_X7_layAnswers ++ (wq_k_X7_cases_v2 ++ [])))
theorem gd_k_X7_fits : Gd wq_k_X7_fits := gd_c (gd_a (gd_o (by decide +kernel)) (gd_a gd_k_X7_layAnswers (gd_a gd_k_X7_cases_v2 gd_0)))
abbrev wc_k_X7_fits (cyB cyI cyJ cyZ cyO : ClassId) (h1 : Nat) (md : Nat → Nat) (g : Nat → Int32) (a1 : Int32) : va_W := [(h1, .inr (7, [.ref (md 0), .ref (md 1), .int 0, .int 0, .int 0, .int (-1), .int 0, .int 0, .int 0, .int 0, .long 0, .ref (md 11), .ref (md 12), .ref (md 13), .ref (md 14), .ref (md 15), .ref (md 16), .ref (md 17), .ref (md 18), .ref (md 19), .ref (md 20), .ref (md 21), .ref (md 22), .ref (md 23), .ref (md 24), .ref (md 25), .ref (md 26), .ref (md 27), .ref (md 28), .int 0, .int 0, .int 0, .int 0, .int 0, .int 0, .int 0, .int 0, .int 0, .int 0, .int 0, .ref (md 40), .ref (md 41), .int 0, .int 0, .ref (md 44), .int 0, .int 0, .ref (md 47), .ref (md 48), .int 0, .ref (md 50), .ref (md 51), .ref (md 52), .ref (md 53), .ref (md 54), .int 0, .int 0, .ref (md 57), .ref (md 58)])), (md 12, .inl (cyI, 2, .inl (fun _ => 0))), (md 40, .inl (cyI, 520, .inl g)), (md 41, .inl (cyI, 520, .inl (fun _ => 0)))]
set_option maxHeartbeats 4000000 in
set_option maxRecDepth 100000 in
theorem k_X7_fits (l : Launch) (dC : Nat → ClassId) (dI : Nat → Nat → Nat) (cyB cyI cyJ cyZ cyO : ClassId) (h1 : Nat) (md : Nat → Nat) (g : Nat → Int32) (a1 : Int32) (sz : Nat) (hg : AllZ g) : Met l yX7_fits wq_k_X7_fits ({ frames := 2, cells := 0, slots := 0, locals := 43 }) (va_Pc [.ref h1, .int a1] (cB (dC, dI) (kT cyB cyI cyJ cyZ cyO) (wc_k_X7_fits cyB cyI cyJ cyZ cyO h1 md g a1) sz)) (va_Qi (fun (r : Int32) _ => r = 0) (fun (u : Nat → Nat → Int32) t => cE (dC, dI) (va_A (wc_k_X7_fits cyB cyI cyJ cyZ cyO h1 md g a1) sz) ([(h1, .inr (7, [.ref (md 0), .ref (md 1), .int 0, .int 0, .int 0, .int (-1), .int 0, .int 0, .int 0, .int 0, .long 0, .ref (md 11), .ref (md 12), .ref (md 13), .ref (md 14), .ref (md 15), .ref (md 16), .ref (md 17), .ref (md 18), .ref (md 19), .ref (md 20), .ref (md 21), .ref (md 22), .ref (md 23), .ref (md 24), .ref (md 25), .ref (md 26), .ref (md 27), .ref (md 28), .int 0, .int 0, .int 0, .int 0, .int 0, .int 0, .int 0, .int 0, .int 0, .int 0, .int 0, .ref (md 40), .ref (md 41), .int 0, .int 0, .ref (md 44), .int 0, .int 0, .ref (md 47), .ref (md 48), .int 0, .ref (md 50), .ref (md 51), .ref (md 52), .ref (md 53), .ref (md 54), .int 0, .int 0, .ref (md 57), .ref (md 58)])), (md 12, .inl (cyI, 2, .inl (fun _ => 0))), (md 40, .inl (cyI, 520, .inl (u 0))), (md 41, .inl (cyI, 520, .inl (u 1)))]) t.heap) (va_A (wc_k_X7_fits cyB cyI cyJ cyZ cyO h1 md g a1) sz)) 0 0 (va_A (wc_k_X7_fits cyB cyI cyJ cyZ cyO h1 md g a1) sz) := by
  refine Met.ofW (cc := cX7_fits) (maxL := 4) (ret := (some .int)) (by decide) rfl ?_
  intro p e s m args below meth c s₁ B hml hv
  obtain ⟨rfl, hsz, hP, hKN, hD0⟩ := hv
  have hx := B.exec
  have hb := B.bytes
  have hr := B.returns
  have hts := atoms_spec (ws := wq_k_X7_fits) B.pre
  have hown : s.vm.findClass RX7 = some m.cls := findClass_of_methodNamed B.named
  have hlocks := B.notSynchronized
  have hK := hKN.1
  have hfix : CallFix p m c cX7_fits 4 s [.ref h1, .int a1].toArray wq_k_X7_fits RX7 := ⟨hx, hb, hml, hown, hts⟩
  subst hsz
  have hD := hD0.self (sz := s.heap.size)
  generalize hAe : va_A (wc_k_X7_fits cyB cyI cyJ cyZ cyO h1 md g a1) s.heap.size = A at hD ⊢
  have hA : ∀ q : Nat, s.heap.size ≤ q → A q := fun q h => by rw [← hAe]; exact Or.inr h
  have hS : va_S A s.heap s.heap [] := va_S.rf
  have hl := lv_entry ([.ref h1, .int a1]) (n := 4) (Nat.le_of_ble_eq_true rfl)
  rw [lg_entry_eq]
  generalize (lg_sl ([.ref h1, .int a1]) ++ List.replicate (4 - (lg_sl ([.ref h1, .int a1])).length) Slot.unset).toArray = ls at hl ⊢
  have hl : lv_has ls 4 [(0, .ref h1), (1, .int a1)] := hl
  refine lv_aload_n hx hb dX7_fits_0 rfl (lv_at hl 0 rfl) ?_
  refine gf_v (wr := []) (va_runV (As := []) (rest := []) hfix (k_X7_layAnswers l dC dI cyB cyI cyJ cyZ cyO h1 md g _ hg) (cwV 0 hts (gi_V (ow_m (k := 0) rfl) (ow_m (k := 1) rfl) (ow_m (k := 2) rfl) (ow_m (k := 3) rfl) (sb_c sb_l) gd_k_X7_layAnswers) rfl rfl rfl (by decide +kernel) ⟨Nat.le_of_ble_eq_true rfl, Nat.le_of_ble_eq_true rfl⟩) (g_preV hKN hP hD [0, 1, 2, 3] rfl (by decide) 0 7 rfl rfl) rfl rfl hl.1 rfl (lv_room (Nat.le_of_ble_eq_true rfl)) dX7_fits_1 ⟨Nat.le_of_ble_eq_true rfl, Nat.le_of_ble_eq_true rfl⟩) hP hD hS hA [0, 1, 2, 3] [] rfl rfl (by decide) (by decide) (fun u3573 H locs qu3573 hP hD hS => ?_)
  have hP : va_P (dC, dI) vwCl [(h1, .inr (7, [.ref (md 0), .ref (md 1), .int 0, .int 0, .int 0, .int (-1), .int 0, .int 0, .int 0, .int 0, .long 0, .ref (md 11), .ref (md 12), .ref (md 13), .ref (md 14), .ref (md 15), .ref (md 16), .ref (md 17), .ref (md 18), .ref (md 19), .ref (md 20), .ref (md 21), .ref (md 22), .ref (md 23), .ref (md 24), .ref (md 25), .ref (md 26), .ref (md 27), .ref (md 28), .int 0, .int 0, .int 0, .int 0, .int 0, .int 0, .int 0, .int 0, .int 0, .int 0, .int 0, .ref (md 40), .ref (md 41), .int 0, .int 0, .ref (md 44), .int 0, .int 0, .ref (md 47), .ref (md 48), .int 0, .ref (md 50), .ref (md 51), .ref (md 52), .ref (md 53), .ref (md 54), .int 0, .int 0, .ref (md 57), .ref (md 58)])), (md 12, .inl (cyI, 2, .inl (fun _ => 0))), (md 40, .inl (cyI, 520, .inl (u3573 0))), (md 41, .inl (cyI, 520, .inl (u3573 1)))] H := hP
  have hD : va_D A [(h1, .inr (7, [.ref (md 0), .ref (md 1), .int 0, .int 0, .int 0, .int (-1), .int 0, .int 0, .int 0, .int 0, .long 0, .ref (md 11), .ref (md 12), .ref (md 13), .ref (md 14), .ref (md 15), .ref (md 16), .ref (md 17), .ref (md 18), .ref (md 19), .ref (md 20), .ref (md 21), .ref (md 22), .ref (md 23), .ref (md 24), .ref (md 25), .ref (md 26), .ref (md 27), .ref (md 28), .int 0, .int 0, .int 0, .int 0, .int 0, .int 0, .int 0, .int 0, .int 0, .int 0, .int 0, .ref (md 40), .ref (md 41), .int 0, .int 0, .ref (md 44), .int 0, .int 0, .ref (md 47), .ref (md 48), .int 0, .ref (md 50), .ref (md 51), .ref (md 52), .ref (md 53), .ref (md 54), .int 0, .int 0, .ref (md 57), .ref (md 58)])), (md 12, .inl (cyI, 2, .inl (fun _ => 0))), (md 40, .inl (cyI, 520, .inl (u3573 0))), (md 41, .inl (cyI, 520, .inl (u3573 1)))] := hD
  refine lv_iconst (v := 0) hx hb dX7_fits_4 (by decide) ?_
  refine lv_istore_n (lv' := [(2, .int 0), (0, .ref h1), (1, .int a1)]) hx hb dX7_fits_5 rfl hl (by decide) rfl (fun ls hl => ?_)
  refine lv_iconst (v := 0) hx hb dX7_fits_6 (by decide) ?_
  refine lv_istore_n (lv' := [(3, .int 0), (2, .int 0), (0, .ref h1), (1, .int a1)]) hx hb dX7_fits_7 rfl hl (by decide) rfl (fun ls hl => ?_)
  refine lv_iload_n hx hb dX7_fits_8 rfl (lv_at hl 0 rfl) ?_
  refine lv_aload_n hx hb dX7_fits_9 rfl (lv_at hl 2 rfl) ?_
  refine gf_i (wr := [(md 40, .inl (cyI, 520, .inl (u3573 0))), (md 41, .inl (cyI, 520, .inl (u3573 1)))]) (va_runV (As := []) (rest := [.int 0]) hfix (k_X7_cases_v2 l dC dI cyB cyI cyJ cyZ cyO h1 md _) (cwV 0 hts (gi_V (ow_m (k := 4) rfl) (ow_m (k := 5) rfl) (ow_m (k := 6) rfl) (ow_m (k := 3) rfl) (sb_c (sb_r sb_l)) gd_k_X7_cases_v2) rfl rfl rfl (by decide +kernel) ⟨Nat.le_of_ble_eq_true rfl, Nat.le_of_ble_eq_true rfl⟩) (g_preV hKN hP hD [0, 1] rfl (by decide) 0 7 rfl rfl) rfl rfl hl.1 rfl (lv_room (Nat.le_of_ble_eq_true rfl)) dX7_fits_10 ⟨Nat.le_of_ble_eq_true rfl, Nat.le_of_ble_eq_true rfl⟩) hP hD hS hA [0, 1] [2, 3] rfl rfl (by decide) (by decide) (fun r3575 u3576 H locs qu3576 hP hD hS => ?_)
  have hP : va_P (dC, dI) vwCl [(md 40, .inl (cyI, 520, .inl (u3573 0))), (md 41, .inl (cyI, 520, .inl (u3573 1))), (h1, .inr (7, [.ref (md 0), .ref (md 1), .int 0, .int 0, .int 0, .int (-1), .int 0, .int 0, .int 0, .int 0, .long 0, .ref (md 11), .ref (md 12), .ref (md 13), .ref (md 14), .ref (md 15), .ref (md 16), .ref (md 17), .ref (md 18), .ref (md 19), .ref (md 20), .ref (md 21), .ref (md 22), .ref (md 23), .ref (md 24), .ref (md 25), .ref (md 26), .ref (md 27), .ref (md 28), .int 0, .int 0, .int 0, .int 0, .int 0, .int 0, .int 0, .int 0, .int 0, .int 0, .int 0, .ref (md 40), .ref (md 41), .int 0, .int 0, .ref (md 44), .int 0, .int 0, .ref (md 47), .ref (md 48), .int 0, .ref (md 50), .ref (md 51), .ref (md 52), .ref (md 53), .ref (md 54), .int 0, .int 0, .ref (md 57), .ref (md 58)])), (md 12, .inl (cyI, 2, .inl (fun _ => 0)))] H := hP
  have hD : va_D A [(md 40, .inl (cyI, 520, .inl (u3573 0))), (md 41, .inl (cyI, 520, .inl (u3573 1))), (h1, .inr (7, [.ref (md 0), .ref (md 1), .int 0, .int 0, .int 0, .int (-1), .int 0, .int 0, .int 0, .int 0, .long 0, .ref (md 11), .ref (md 12), .ref (md 13), .ref (md 14), .ref (md 15), .ref (md 16), .ref (md 17), .ref (md 18), .ref (md 19), .ref (md 20), .ref (md 21), .ref (md 22), .ref (md 23), .ref (md 24), .ref (md 25), .ref (md 26), .ref (md 27), .ref (md 28), .int 0, .int 0, .int 0, .int 0, .int 0, .int 0, .int 0, .int 0, .int 0, .int 0, .int 0, .ref (md 40), .ref (md 41), .int 0, .int 0, .ref (md 44), .int 0, .int 0, .ref (md 47), .ref (md 48), .int 0, .ref (md 50), .ref (md 51), .ref (md 52), .ref (md 53), .ref (md 54), .int 0, .int 0, .ref (md 57), .ref (md 58)])), (md 12, .inl (cyI, 2, .inl (fun _ => 0)))] := hD
  refine tp_c (w := 0) qu3576 ?_
  refine lv_icmp_ge (tgt := 39) hx hb dX7_fits_13 (by decide) (fun _ => ?_) (fun c3577 => absurd (by decide) c3577)
  refine lv_iload_n hx hb dX7_fits_39 rfl (lv_at hl 1 rfl) ?_
  exact W.iret (v := 0) hx hb hr (fun t ht hW => ⟨⟨0, (fun k => match k with | 0 => u3573 0 | _ => u3573 1), rfl, rfl, cE.of ht hP hD [2, 3, 0, 1] (by decide) rfl⟩, hS.F ht⟩) hS.2.2 dX7_fits_40
def wo_k_X7_bringBack_v10 : List Cond := [.fieldLink RX7 76 "ReplicaChainModel" "all" "[I", .fieldLink RX7 79 "ReplicaChainModel" "kept" "[I"]
def wq_k_X7_bringBack_v10 : List Cond := .code yX7_bringBack cX7_bringBack 2 none :: (wo_k_X7_bringBack_v10 ++ (wsX70 ++ []))
theorem gd_k_X7_bringBack_v10 : Gd wq_k_X7_bringBack_v10 := gd_c (gd_a (gd_o (by decide +kernel)) (gd_a gd_u gd_0))
abbrev wc_k_X7_bringBack_v10 (cyB cyI cyJ cyZ cyO : ClassId) (md : Nat → Nat) (g : Nat → Int32) (u3599 : Nat → Nat → Int32) (h1 : Nat) : va_W := [(md 40, .inl (cyI, 520, .inl g)), (md 41, .inl (cyI, 520, .inl (u3599 0))), (h1, .inr (7, [.ref (md 0), .ref (md 1), .int 0, .int 0, .int 0, .int (-1), .int 0, .int 0, .int 0, .int 0, .long 0, .ref (md 11), .ref (md 12), .ref (md 13), .ref (md 14), .ref (md 15), .ref (md 16), .ref (md 17), .ref (md 18), .ref (md 19), .ref (md 20), .ref (md 21), .ref (md 22), .ref (md 23), .ref (md 24), .ref (md 25), .ref (md 26), .ref (md 27), .ref (md 28), .int 0, .int 0, .int 0, .int 0, .int 0, .int 0, .int 0, .int 0, .int 0, .int 0, .int 0, .ref (md 40), .ref (md 41), .int 0, .int 0, .ref (md 44), .int 0, .int 0, .ref (md 47), .ref (md 48), .int 0, .ref (md 50), .ref (md 51), .ref (md 52), .ref (md 53), .ref (md 54), .int 0, .int 0, .ref (md 57), .ref (md 58)]))]
set_option maxHeartbeats 4000000 in
set_option maxRecDepth 100000 in
theorem k_X7_bringBack_v10 (l : Launch) (dC : Nat → ClassId) (dI : Nat → Nat → Nat) (cyB cyI cyJ cyZ cyO : ClassId) (md : Nat → Nat) (g : Nat → Int32) (u3599 : Nat → Nat → Int32) (h1 : Nat) (sz : Nat) (hg : AllZ g) : Met l yX7_bringBack wq_k_X7_bringBack_v10 ({ frames := 0, cells := 0, slots := 0, locals := 0 }) (va_Pc [.ref h1] (cB (dC, dI) (kT cyB cyI cyJ cyZ cyO) (wc_k_X7_bringBack_v10 cyB cyI cyJ cyZ cyO md g u3599 h1) sz)) (va_Qv (fun _ => True) (fun (u : Nat → Nat → Int32) t => cE (dC, dI) (va_A (wc_k_X7_bringBack_v10 cyB cyI cyJ cyZ cyO md g u3599 h1) sz) ([(md 40, .inl (cyI, 520, .inl (u 0))), (md 41, .inl (cyI, 520, .inl (u3599 0))), (h1, .inr (7, [.ref (md 0), .ref (md 1), .int 0, .int 0, .int 0, .int (-1), .int 0, .int 0, .int 0, .int 0, .long 0, .ref (md 11), .ref (md 12), .ref (md 13), .ref (md 14), .ref (md 15), .ref (md 16), .ref (md 17), .ref (md 18), .ref (md 19), .ref (md 20), .ref (md 21), .ref (md 22), .ref (md 23), .ref (md 24), .ref (md 25), .ref (md 26), .ref (md 27), .ref (md 28), .int 0, .int 0, .int 0, .int 0, .int 0, .int 0, .int 0, .int 0, .int 0, .int 0, .int 0, .ref (md 40), .ref (md 41), .int 0, .int 0, .ref (md 44), .int 0, .int 0, .ref (md 47), .ref (md 48), .int 0, .ref (md 50), .ref (md 51), .ref (md 52), .ref (md 53), .ref (md 54), .int 0, .int 0, .ref (md 57), .ref (md 58)]))]) t.heap) (va_A (wc_k_X7_bringBack_v10 cyB cyI cyJ cyZ cyO md g u3599 h1) sz)) 0 0 (va_A (wc_k_X7_bringBack_v10 cyB cyI cyJ cyZ cyO md g u3599 h1) sz) := by
  refine Met.ofW (cc := cX7_bringBack) (maxL := 2) (ret := none) (by decide) rfl ?_
  intro p e s m args below meth c s₁ B hml hv
  obtain ⟨rfl, hsz, hP, hKN, hD0⟩ := hv
  have hx := B.exec
  have hb := B.bytes
  have hr := B.returns
  have hts := atoms_spec (ws := wq_k_X7_bringBack_v10) B.pre
  have hown : s.vm.findClass RX7 = some m.cls := findClass_of_methodNamed B.named
  have hlocks := B.notSynchronized
  have hK := hKN.1
  have hfix : CallFix p m c cX7_bringBack 2 s [.ref h1].toArray wq_k_X7_bringBack_v10 RX7 := ⟨hx, hb, hml, hown, hts⟩
  have hi7 : ∀ w ∈ wsX70, w ∈ wq_k_X7_bringBack_v10 := (sb_c sb_l)
  subst hsz
  have hD := hD0.self (sz := s.heap.size)
  generalize hAe : va_A (wc_k_X7_bringBack_v10 cyB cyI cyJ cyZ cyO md g u3599 h1) s.heap.size = A at hD ⊢
  have hA : ∀ q : Nat, s.heap.size ≤ q → A q := fun q h => by rw [← hAe]; exact Or.inr h
  have hS : va_S A s.heap s.heap [] := va_S.rf
  have hl := lv_entry ([.ref h1]) (n := 2) (Nat.le_of_ble_eq_true rfl)
  rw [lg_entry_eq]
  generalize (lg_sl ([.ref h1]) ++ List.replicate (2 - (lg_sl ([.ref h1])).length) Slot.unset).toArray = ls at hl ⊢
  have hl : lv_has ls 2 [(0, .ref h1)] := hl
  refine lv_iconst (v := 0) hx hb dX7_bringBack_0 (by decide) ?_
  refine lv_istore_n (lv' := [(1, .int 0), (0, .ref h1)]) hx hb dX7_bringBack_1 rfl hl (by decide) rfl (fun ls hl => ?_)
  refine w_gen (fun H locs ls hP hS hl => ?_) hP hS hl
  obtain ⟨k, hk, hl2⟩ : ∃ k : Nat, k + 520 = 520 ∧ lv_has ls 2 [(1, .int (nI k)), (0, .ref h1)] := ⟨0, Nat.zero_add _, hl⟩
  obtain ⟨n, hkn⟩ : ∃ n : Nat, k + n = 520 := ⟨520, hk⟩
  obtain ⟨f3609, hP2, hD2⟩ : ∃ (f3609 : Nat → Int32), va_P (dC, dI) vwCl [(md 40, .inl (cyI, 520, .inl f3609)), (md 41, .inl (cyI, 520, .inl (u3599 0))), (h1, .inr (7, [.ref (md 0), .ref (md 1), .int 0, .int 0, .int 0, .int (-1), .int 0, .int 0, .int 0, .int 0, .long 0, .ref (md 11), .ref (md 12), .ref (md 13), .ref (md 14), .ref (md 15), .ref (md 16), .ref (md 17), .ref (md 18), .ref (md 19), .ref (md 20), .ref (md 21), .ref (md 22), .ref (md 23), .ref (md 24), .ref (md 25), .ref (md 26), .ref (md 27), .ref (md 28), .int 0, .int 0, .int 0, .int 0, .int 0, .int 0, .int 0, .int 0, .int 0, .int 0, .int 0, .ref (md 40), .ref (md 41), .int 0, .int 0, .ref (md 44), .int 0, .int 0, .ref (md 47), .ref (md 48), .int 0, .ref (md 50), .ref (md 51), .ref (md 52), .ref (md 53), .ref (md 54), .int 0, .int 0, .ref (md 57), .ref (md 58)]))] H ∧ va_D A [(md 40, .inl (cyI, 520, .inl f3609)), (md 41, .inl (cyI, 520, .inl (u3599 0))), (h1, .inr (7, [.ref (md 0), .ref (md 1), .int 0, .int 0, .int 0, .int (-1), .int 0, .int 0, .int 0, .int 0, .long 0, .ref (md 11), .ref (md 12), .ref (md 13), .ref (md 14), .ref (md 15), .ref (md 16), .ref (md 17), .ref (md 18), .ref (md 19), .ref (md 20), .ref (md 21), .ref (md 22), .ref (md 23), .ref (md 24), .ref (md 25), .ref (md 26), .ref (md 27), .ref (md 28), .int 0, .int 0, .int 0, .int 0, .int 0, .int 0, .int 0, .int 0, .int 0, .int 0, .int 0, .ref (md 40), .ref (md 41), .int 0, .int 0, .ref (md 44), .int 0, .int 0, .ref (md 47), .ref (md 48), .int 0, .ref (md 50), .ref (md 51), .ref (md 52), .ref (md 53), .ref (md 54), .int 0, .int 0, .ref (md 57), .ref (md 58)]))] := ⟨_, hP, hD⟩
  clear hk hP hl
  have hP := hP2
  have hD := hD2
  have hl := hl2
  clear hP2 hD2 hl2
  induction n generalizing k f3609 H locs ls with
  | zero =>
    obtain rfl : k = 520 := by omega
    refine lv_iload_n hx hb dX7_bringBack_2 rfl (lv_at hl 0 rfl) ?_
    refine lv_sipush (v := 520) hx hb dX7_bringBack_3 (by decide) ?_
    refine lv_icmp_ge (tgt := 27) hx hb dX7_bringBack_6 (by decide) (fun _ => ?_) (fun c3610 => absurd (by decide) c3610)
    exact W.vret hx hb hr (fun t ht hW => ⟨⟨(fun _ => f3609), rfl, trivial, cE.of ht hP hD [0, 1, 2] (by decide) rfl⟩, hS.F ht⟩) hS.2.2 dX7_bringBack_27
  | succ n ih =>
    refine lv_iload_n hx hb dX7_bringBack_2 rfl (lv_at hl 0 rfl) ?_
    refine lv_sipush (v := 520) hx hb dX7_bringBack_3 (by decide) ?_
    refine lv_icmp_ge (tgt := 27) hx hb dX7_bringBack_6 (by decide) (fun c3611 => ?_) (fun c3611 => ?_)
    · have c3611 := i_le (a := 520) (b := (k : Int)) c3611 (by decide) (nI_toInt (by omega))
      exfalso; omega
    · have c3611 := i_nle (a := 520) (b := (k : Int)) c3611 (by decide) (nI_toInt (by omega))
      refine lv_aload_n hx hb dX7_bringBack_9 rfl (lv_at hl 1 rfl) ?_
      refine va_get (D := (dC, dI)) (ci := 7) (v := .ref (md 40)) (C := RX7) (T := TX7) (N := 59) hx hb hts hi7 hown hK hP 2 rfl rfl 40 (by decide) (hts _ (ow_m (k := 0) rfl)) (fun _ h9 => h9) rfl dX7_bringBack_10 ?_
      refine lv_iload_n hx hb dX7_bringBack_13 rfl (lv_at hl 0 rfl) ?_
      refine lv_aload_n hx hb dX7_bringBack_14 rfl (lv_at hl 1 rfl) ?_
      refine va_get (D := (dC, dI)) (ci := 7) (v := .ref (md 41)) (C := RX7) (T := TX7) (N := 59) hx hb hts hi7 hown hK hP 2 rfl rfl 41 (by decide) (hts _ (ow_m (k := 1) rfl)) (fun _ h9 => h9) rfl dX7_bringBack_15 ?_
      refine lv_iload_n hx hb dX7_bringBack_18 rfl (lv_at hl 0 rfl) ?_
      refine va_iald hx hb hK hP 1 1 rfl rfl (vp_i (nI_toInt (by omega)) (by omega) (by omega)) dX7_bringBack_19 ?_
      refine lv_topi (fun z3612 ez3612 => ?_)
      refine va_iast hx hb hK hP hD hS 0 1 rfl rfl (vp_i (nI_toInt (by omega)) (by omega) (by omega)) dX7_bringBack_20 (fun H locs hP hD hS => ?_)
      have hP : va_P (dC, dI) vwCl [(md 40, .inl (cyI, 520, .inl (upd f3609 (nI k).toNatClampNeg z3612))), (md 41, .inl (cyI, 520, .inl (u3599 0))), (h1, .inr (7, [.ref (md 0), .ref (md 1), .int 0, .int 0, .int 0, .int (-1), .int 0, .int 0, .int 0, .int 0, .long 0, .ref (md 11), .ref (md 12), .ref (md 13), .ref (md 14), .ref (md 15), .ref (md 16), .ref (md 17), .ref (md 18), .ref (md 19), .ref (md 20), .ref (md 21), .ref (md 22), .ref (md 23), .ref (md 24), .ref (md 25), .ref (md 26), .ref (md 27), .ref (md 28), .int 0, .int 0, .int 0, .int 0, .int 0, .int 0, .int 0, .int 0, .int 0, .int 0, .int 0, .ref (md 40), .ref (md 41), .int 0, .int 0, .ref (md 44), .int 0, .int 0, .ref (md 47), .ref (md 48), .int 0, .ref (md 50), .ref (md 51), .ref (md 52), .ref (md 53), .ref (md 54), .int 0, .int 0, .ref (md 57), .ref (md 58)]))] H := hP
      have hD : va_D A [(md 40, .inl (cyI, 520, .inl (upd f3609 (nI k).toNatClampNeg z3612))), (md 41, .inl (cyI, 520, .inl (u3599 0))), (h1, .inr (7, [.ref (md 0), .ref (md 1), .int 0, .int 0, .int 0, .int (-1), .int 0, .int 0, .int 0, .int 0, .long 0, .ref (md 11), .ref (md 12), .ref (md 13), .ref (md 14), .ref (md 15), .ref (md 16), .ref (md 17), .ref (md 18), .ref (md 19), .ref (md 20), .ref (md 21), .ref (md 22), .ref (md 23), .ref (md 24), .ref (md 25), .ref (md 26), .ref (md 27), .ref (md 28), .int 0, .int 0, .int 0, .int 0, .int 0, .int 0, .int 0, .int 0, .int 0, .int 0, .int 0, .ref (md 40), .ref (md 41), .int 0, .int 0, .ref (md 44), .int 0, .int 0, .ref (md 47), .ref (md 48), .int 0, .ref (md 50), .ref (md 51), .ref (md 52), .ref (md 53), .ref (md 54), .int 0, .int 0, .ref (md 57), .ref (md 58)]))] := hD
      generalize upd f3609 (nI k).toNatClampNeg z3612 = f3613 at hP hD
      refine lv_iinc (v := nI (k + 1)) (lv' := [(1, .int (nI (k + 1))), (0, .ref h1)]) hx hb dX7_bringBack_21 hl (k := 0) rfl (nI_1 k) (by decide) rfl (fun ls hl => ?_)
      refine lv_goto (tgt := 2) hx hb dX7_bringBack_24 (by decide) ?_
      have hl := lv_sub (l' := [(1, .int (nI (k + 1))), (0, .ref h1)]) hl [0, 1] rfl
      apply ih (k := k + 1) (f3609 := f3613) <;> first | assumption | omega
def wo_c_M_ask : List Cond := [.methodLink RX7 316 yX7_isIn, .static yX7_isIn, .initialized RX7, .methodLink RX7 501 yX7_fits, .instanceMethod yX7_fits, .selects RX7 yX7_fits yX7_fits]
def wq_c_M_ask : List Cond := .code yX7_ask cX7_ask 5 (some .int) :: (wo_c_M_ask ++ (wq_k_X7_isIn_v4 ++ (wq_k_X7_fits ++ [])))
theorem gd_c_M_ask : Gd wq_c_M_ask := gd_c (gd_a (gd_o (by decide +kernel)) (gd_a gd_k_X7_isIn_v4 (gd_a gd_k_X7_fits gd_0)))
abbrev wc_c_M_ask (cyB cyI cyJ cyZ cyO : ClassId) (h1 : Nat) (md : Nat → Nat) (g : Nat → Int32) (x1 : Int32) (x2 : Int32) : va_W := [(h1, .inr (7, [.ref (md 0), .ref (md 1), .int 0, .int 0, .int 0, .int (-1), .int 0, .int 0, .int 0, .int 0, .long 0, .ref (md 11), .ref (md 12), .ref (md 13), .ref (md 14), .ref (md 15), .ref (md 16), .ref (md 17), .ref (md 18), .ref (md 19), .ref (md 20), .ref (md 21), .ref (md 22), .ref (md 23), .ref (md 24), .ref (md 25), .ref (md 26), .ref (md 27), .ref (md 28), .int 0, .int 0, .int 0, .int 0, .int 0, .int 0, .int 0, .int 0, .int 0, .int 0, .int 0, .ref (md 40), .ref (md 41), .int 0, .int 0, .ref (md 44), .int 0, .int 0, .ref (md 47), .ref (md 48), .int 0, .ref (md 50), .ref (md 51), .ref (md 52), .ref (md 53), .ref (md 54), .int 0, .int 0, .ref (md 57), .ref (md 58)])), (md 12, .inl (cyI, 2, .inl (fun _ => 0))), (md 40, .inl (cyI, 520, .inl g)), (md 41, .inl (cyI, 520, .inl (fun _ => 0)))]
set_option maxHeartbeats 4000000 in
set_option maxRecDepth 100000 in
theorem c_M_ask (l : Launch) (dC : Nat → ClassId) (dI : Nat → Nat → Nat) (cyB cyI cyJ cyZ cyO : ClassId) (h1 : Nat) (md : Nat → Nat) (g : Nat → Int32) (x1 : Int32) (x2 : Int32) (sz : Nat) (hg : AllZ g) : Met l yX7_ask wq_c_M_ask ({ frames := 3, cells := 0, slots := 0, locals := 66 }) (va_Pc [.ref h1, .int x1, .int x2] (cB (dC, dI) (kT cyB cyI cyJ cyZ cyO) (wc_c_M_ask cyB cyI cyJ cyZ cyO h1 md g x1 x2) sz)) (va_Qi (fun (r : Int32) (_ : Unit) => r = -1) (fun (u : Unit) t => cE (dC, dI) (va_A (wc_c_M_ask cyB cyI cyJ cyZ cyO h1 md g x1 x2) sz) ([]) t.heap) (va_A (wc_c_M_ask cyB cyI cyJ cyZ cyO h1 md g x1 x2) sz)) 0 0 (va_A (wc_c_M_ask cyB cyI cyJ cyZ cyO h1 md g x1 x2) sz) := by
  refine Met.ofW (cc := cX7_ask) (maxL := 5) (ret := (some .int)) (by decide) rfl ?_
  intro p e s m args below meth c s₁ B hml hv
  obtain ⟨rfl, hsz, hP, hKN, hD0⟩ := hv
  have hx := B.exec
  have hb := B.bytes
  have hr := B.returns
  have hts := atoms_spec (ws := wq_c_M_ask) B.pre
  have hown : s.vm.findClass RX7 = some m.cls := findClass_of_methodNamed B.named
  have hlocks := B.notSynchronized
  have hK := hKN.1
  have hfix : CallFix p m c cX7_ask 5 s [.ref h1, .int x1, .int x2].toArray wq_c_M_ask RX7 := ⟨hx, hb, hml, hown, hts⟩
  subst hsz
  have hD := hD0.self (sz := s.heap.size)
  generalize hAe : va_A (wc_c_M_ask cyB cyI cyJ cyZ cyO h1 md g x1 x2) s.heap.size = A at hD ⊢
  have hA : ∀ q : Nat, s.heap.size ≤ q → A q := fun q h => by rw [← hAe]; exact Or.inr h
  have hS : va_S A s.heap s.heap [] := va_S.rf
  have hl := lv_entry ([.ref h1, .int x1, .int x2]) (n := 5) (Nat.le_of_ble_eq_true rfl)
  rw [lg_entry_eq]
  generalize (lg_sl ([.ref h1, .int x1, .int x2]) ++ List.replicate (5 - (lg_sl ([.ref h1, .int x1, .int x2])).length) Slot.unset).toArray = ls at hl ⊢
  have hl : lv_has ls 5 [(0, .ref h1), (1, .int x1), (2, .int x2)] := hl
  refine lv_iload_n hx hb dX7_ask_0 rfl (lv_at hl 1 rfl) ?_
  refine lv_iconst (v := 0) hx hb dX7_ask_1 (by decide) ?_
  refine lv_iconst (v := 1) hx hb dX7_ask_2 (by decide) ?_
  refine gf_i (wr := [(h1, .inr (7, [.ref (md 0), .ref (md 1), .int 0, .int 0, .int 0, .int (-1), .int 0, .int 0, .int 0, .int 0, .long 0, .ref (md 11), .ref (md 12), .ref (md 13), .ref (md 14), .ref (md 15), .ref (md 16), .ref (md 17), .ref (md 18), .ref (md 19), .ref (md 20), .ref (md 21), .ref (md 22), .ref (md 23), .ref (md 24), .ref (md 25), .ref (md 26), .ref (md 27), .ref (md 28), .int 0, .int 0, .int 0, .int 0, .int 0, .int 0, .int 0, .int 0, .int 0, .int 0, .int 0, .ref (md 40), .ref (md 41), .int 0, .int 0, .ref (md 44), .int 0, .int 0, .ref (md 47), .ref (md 48), .int 0, .ref (md 50), .ref (md 51), .ref (md 52), .ref (md 53), .ref (md 54), .int 0, .int 0, .ref (md 57), .ref (md 58)])), (md 12, .inl (cyI, 2, .inl (fun _ => 0))), (md 40, .inl (cyI, 520, .inl g)), (md 41, .inl (cyI, 520, .inl (fun _ => 0)))]) (va_runS (As := [.int x1, .int 0, .int 1]) (rest := []) hfix (k_X7_isIn_v4 l dC dI cyB cyI cyJ cyZ cyO x1 _) (va_cwS 3 hts (gi_S (ow_m (k := 0) rfl) (ow_m (k := 1) rfl) (ow_m (k := 2) rfl) (sb_c sb_l) gd_k_X7_isIn_v4) rfl rfl rfl (by decide +kernel) ⟨Nat.le_of_ble_eq_true rfl, Nat.le_of_ble_eq_true rfl⟩) (g_preS hKN hP hD [] rfl (by decide)) rfl rfl hl.1 rfl (lv_room (Nat.le_of_ble_eq_true rfl)) dX7_ask_3 ⟨Nat.le_of_ble_eq_true rfl, Nat.le_of_ble_eq_true rfl⟩) hP hD hS hA [] [0, 1, 2, 3] rfl rfl (by decide) (by decide) (fun r3583 u3584 H locs qu3584 hP hD hS => ?_)
  have hP : va_P (dC, dI) vwCl [(h1, .inr (7, [.ref (md 0), .ref (md 1), .int 0, .int 0, .int 0, .int (-1), .int 0, .int 0, .int 0, .int 0, .long 0, .ref (md 11), .ref (md 12), .ref (md 13), .ref (md 14), .ref (md 15), .ref (md 16), .ref (md 17), .ref (md 18), .ref (md 19), .ref (md 20), .ref (md 21), .ref (md 22), .ref (md 23), .ref (md 24), .ref (md 25), .ref (md 26), .ref (md 27), .ref (md 28), .int 0, .int 0, .int 0, .int 0, .int 0, .int 0, .int 0, .int 0, .int 0, .int 0, .int 0, .ref (md 40), .ref (md 41), .int 0, .int 0, .ref (md 44), .int 0, .int 0, .ref (md 47), .ref (md 48), .int 0, .ref (md 50), .ref (md 51), .ref (md 52), .ref (md 53), .ref (md 54), .int 0, .int 0, .ref (md 57), .ref (md 58)])), (md 12, .inl (cyI, 2, .inl (fun _ => 0))), (md 40, .inl (cyI, 520, .inl g)), (md 41, .inl (cyI, 520, .inl (fun _ => 0)))] H := hP
  have hD : va_D A [(h1, .inr (7, [.ref (md 0), .ref (md 1), .int 0, .int 0, .int 0, .int (-1), .int 0, .int 0, .int 0, .int 0, .long 0, .ref (md 11), .ref (md 12), .ref (md 13), .ref (md 14), .ref (md 15), .ref (md 16), .ref (md 17), .ref (md 18), .ref (md 19), .ref (md 20), .ref (md 21), .ref (md 22), .ref (md 23), .ref (md 24), .ref (md 25), .ref (md 26), .ref (md 27), .ref (md 28), .int 0, .int 0, .int 0, .int 0, .int 0, .int 0, .int 0, .int 0, .int 0, .int 0, .int 0, .ref (md 40), .ref (md 41), .int 0, .int 0, .ref (md 44), .int 0, .int 0, .ref (md 47), .ref (md 48), .int 0, .ref (md 50), .ref (md 51), .ref (md 52), .ref (md 53), .ref (md 54), .int 0, .int 0, .ref (md 57), .ref (md 58)])), (md 12, .inl (cyI, 2, .inl (fun _ => 0))), (md 40, .inl (cyI, 520, .inl g)), (md 41, .inl (cyI, 520, .inl (fun _ => 0)))] := hD
  rcases qu3584 with ⟨rfl, b3585⟩ | ⟨rfl, b3586, b3587⟩ | ⟨rfl, b3588, b3589⟩
  · skip
    refine lv_if_eq (tgt := 17) hx hb dX7_ask_6 (by decide) (fun _ => ?_) (fun c3590 => absurd (by decide) c3590)
    refine lv_iconst (v := (-1)) hx hb dX7_ask_17 (by decide) ?_
    exact W.iret (v := (-1)) hx hb hr (fun t ht hW => ⟨⟨(-1), (), rfl, rfl, cE.nil⟩, hS.F ht⟩) hS.2.2 dX7_ask_18
  · skip
    refine lv_if_eq (tgt := 17) hx hb dX7_ask_6 (by decide) (fun _ => ?_) (fun c3591 => absurd (by decide) c3591)
    refine lv_iconst (v := (-1)) hx hb dX7_ask_17 (by decide) ?_
    exact W.iret (v := (-1)) hx hb hr (fun t ht hW => ⟨⟨(-1), (), rfl, rfl, cE.nil⟩, hS.F ht⟩) hS.2.2 dX7_ask_18
  · skip
    refine lv_if_eq (tgt := 17) hx hb dX7_ask_6 (by decide) (fun c3592 => absurd c3592 (by decide)) (fun _ => ?_)
    refine lv_aload_n hx hb dX7_ask_9 rfl (lv_at hl 0 rfl) ?_
    refine lv_iload_n hx hb dX7_ask_10 rfl (lv_at hl 2 rfl) ?_
    refine gf_i (wr := []) (va_runV (As := [.int x2]) (rest := []) hfix (k_X7_fits l dC dI cyB cyI cyJ cyZ cyO h1 md g x2 _ hg) (cwV 1 hts (gi_V (ow_m (k := 3) rfl) (ow_m (k := 4) rfl) (ow_m (k := 5) rfl) (ow_m (k := 2) rfl) (sb_c (sb_r sb_l)) gd_k_X7_fits) rfl rfl rfl (by decide +kernel) ⟨Nat.le_of_ble_eq_true rfl, Nat.le_of_ble_eq_true rfl⟩) (g_preV hKN hP hD [0, 1, 2, 3] rfl (by decide) 0 7 rfl rfl) rfl rfl hl.1 rfl (lv_room (Nat.le_of_ble_eq_true rfl)) dX7_ask_11 ⟨Nat.le_of_ble_eq_true rfl, Nat.le_of_ble_eq_true rfl⟩) hP hD hS hA [0, 1, 2, 3] [] rfl rfl (by decide) (by decide) (fun r3622 u3623 H locs qu3623 hP hD hS => ?_)
    have hP : va_P (dC, dI) vwCl [(h1, .inr (7, [.ref (md 0), .ref (md 1), .int 0, .int 0, .int 0, .int (-1), .int 0, .int 0, .int 0, .int 0, .long 0, .ref (md 11), .ref (md 12), .ref (md 13), .ref (md 14), .ref (md 15), .ref (md 16), .ref (md 17), .ref (md 18), .ref (md 19), .ref (md 20), .ref (md 21), .ref (md 22), .ref (md 23), .ref (md 24), .ref (md 25), .ref (md 26), .ref (md 27), .ref (md 28), .int 0, .int 0, .int 0, .int 0, .int 0, .int 0, .int 0, .int 0, .int 0, .int 0, .int 0, .ref (md 40), .ref (md 41), .int 0, .int 0, .ref (md 44), .int 0, .int 0, .ref (md 47), .ref (md 48), .int 0, .ref (md 50), .ref (md 51), .ref (md 52), .ref (md 53), .ref (md 54), .int 0, .int 0, .ref (md 57), .ref (md 58)])), (md 12, .inl (cyI, 2, .inl (fun _ => 0))), (md 40, .inl (cyI, 520, .inl (u3623 0))), (md 41, .inl (cyI, 520, .inl (u3623 1)))] H := hP
    have hD : va_D A [(h1, .inr (7, [.ref (md 0), .ref (md 1), .int 0, .int 0, .int 0, .int (-1), .int 0, .int 0, .int 0, .int 0, .long 0, .ref (md 11), .ref (md 12), .ref (md 13), .ref (md 14), .ref (md 15), .ref (md 16), .ref (md 17), .ref (md 18), .ref (md 19), .ref (md 20), .ref (md 21), .ref (md 22), .ref (md 23), .ref (md 24), .ref (md 25), .ref (md 26), .ref (md 27), .ref (md 28), .int 0, .int 0, .int 0, .int 0, .int 0, .int 0, .int 0, .int 0, .int 0, .int 0, .int 0, .ref (md 40), .ref (md 41), .int 0, .int 0, .ref (md 44), .int 0, .int 0, .ref (md 47), .ref (md 48), .int 0, .ref (md 50), .ref (md 51), .ref (md 52), .ref (md 53), .ref (md 54), .int 0, .int 0, .ref (md 57), .ref (md 58)])), (md 12, .inl (cyI, 2, .inl (fun _ => 0))), (md 40, .inl (cyI, 520, .inl (u3623 0))), (md 41, .inl (cyI, 520, .inl (u3623 1)))] := hD
    refine tp_c (w := 0) qu3623 ?_
    refine lv_if_ne (tgt := 19) hx hb dX7_ask_14 (by decide) (fun c3624 => absurd (by decide) c3624) (fun _ => ?_)
    refine lv_iconst (v := (-1)) hx hb dX7_ask_17 (by decide) ?_
    exact W.iret (v := (-1)) hx hb hr (fun t ht hW => ⟨⟨(-1), (), rfl, rfl, cE.nil⟩, hS.F ht⟩) hS.2.2 dX7_ask_18
def wo_k_X7_isIn_v14 : List Cond := []
def wq_k_X7_isIn_v14 : List Cond := .code yX7_isIn cX7_isIn 3 (some .boolean) :: (wo_k_X7_isIn_v14 ++ [])
theorem gd_k_X7_isIn_v14 : Gd wq_k_X7_isIn_v14 := gd_c (gd_a (gd_o (by decide +kernel)) gd_0)
abbrev wc_k_X7_isIn_v14 (cyB cyI cyJ cyZ cyO : ClassId) : va_W := []
set_option maxHeartbeats 4000000 in
set_option maxRecDepth 100000 in
theorem k_X7_isIn_v14 (l : Launch) (dC : Nat → ClassId) (dI : Nat → Nat → Nat) (cyB cyI cyJ cyZ cyO : ClassId) (sz : Nat) : Met l yX7_isIn wq_k_X7_isIn_v14 ({ frames := 0, cells := 0, slots := 0, locals := 0 }) (va_Pc [.int 0, .int 0, .int 2] (cB (dC, dI) (kT cyB cyI cyJ cyZ cyO) (wc_k_X7_isIn_v14 cyB cyI cyJ cyZ cyO) sz)) (va_Qi (fun (r : Int32) _ => r = 1) (fun (u : Unit) t => cE (dC, dI) (va_A (wc_k_X7_isIn_v14 cyB cyI cyJ cyZ cyO) sz) ([]) t.heap) (va_A (wc_k_X7_isIn_v14 cyB cyI cyJ cyZ cyO) sz)) 0 0 (va_A (wc_k_X7_isIn_v14 cyB cyI cyJ cyZ cyO) sz) := by
  refine Met.ofW (cc := cX7_isIn) (maxL := 3) (ret := (some .boolean)) (by decide) rfl ?_
  intro p e s m args below meth c s₁ B hml hv
  obtain ⟨rfl, hsz, hP, hKN, hD0⟩ := hv
  have hx := B.exec
  have hb := B.bytes
  have hr := B.returns
  have hts := atoms_spec (ws := wq_k_X7_isIn_v14) B.pre
  have hown : s.vm.findClass RX7 = some m.cls := findClass_of_methodNamed B.named
  have hlocks := B.notSynchronized
  have hK := hKN.1
  have hfix : CallFix p m c cX7_isIn 3 s [.int 0, .int 0, .int 2].toArray wq_k_X7_isIn_v14 RX7 := ⟨hx, hb, hml, hown, hts⟩
  subst hsz
  have hD := hD0.self (sz := s.heap.size)
  generalize hAe : va_A (wc_k_X7_isIn_v14 cyB cyI cyJ cyZ cyO) s.heap.size = A at hD ⊢
  have hA : ∀ q : Nat, s.heap.size ≤ q → A q := fun q h => by rw [← hAe]; exact Or.inr h
  have hS : va_S A s.heap s.heap [] := va_S.rf
  have hl := lv_entry ([.int 0, .int 0, .int 2]) (n := 3) (Nat.le_of_ble_eq_true rfl)
  rw [lg_entry_eq]
  generalize (lg_sl ([.int 0, .int 0, .int 2]) ++ List.replicate (3 - (lg_sl ([.int 0, .int 0, .int 2])).length) Slot.unset).toArray = ls at hl ⊢
  have hl : lv_has ls 3 [(0, .int 0), (1, .int 0), (2, .int 2)] := hl
  refine lv_iload_n hx hb dX7_isIn_0 rfl (lv_at hl 0 rfl) ?_
  refine lv_iload_n hx hb dX7_isIn_1 rfl (lv_at hl 1 rfl) ?_
  refine lv_icmp_lt (tgt := 14) hx hb dX7_isIn_2 (by decide) (fun c3628 => absurd c3628 (by decide)) (fun _ => ?_)
  refine lv_iload_n hx hb dX7_isIn_5 rfl (lv_at hl 0 rfl) ?_
  refine lv_iload_n hx hb dX7_isIn_6 rfl (lv_at hl 2 rfl) ?_
  refine lv_icmp_gt (tgt := 14) hx hb dX7_isIn_7 (by decide) (fun c3629 => absurd c3629 (by decide)) (fun _ => ?_)
  refine lv_iconst (v := 1) hx hb dX7_isIn_10 (by decide) ?_
  refine lv_goto (tgt := 15) hx hb dX7_isIn_11 (by decide) ?_
  exact W.zret (v := 1) hx hb hr (by decide) (fun t ht hW => ⟨⟨1, (), rfl, rfl, cE.of ht hP hD [] (by decide) rfl⟩, hS.F ht⟩) hS.2.2 dX7_isIn_15
def wo_k_X7_isIn_v15 : List Cond := []
def wq_k_X7_isIn_v15 : List Cond := .code yX7_isIn cX7_isIn 3 (some .boolean) :: (wo_k_X7_isIn_v15 ++ [])
theorem gd_k_X7_isIn_v15 : Gd wq_k_X7_isIn_v15 := gd_c (gd_a (gd_o (by decide +kernel)) gd_0)
abbrev wc_k_X7_isIn_v15 (cyB cyI cyJ cyZ cyO : ClassId) : va_W := []
set_option maxHeartbeats 4000000 in
set_option maxRecDepth 100000 in
theorem k_X7_isIn_v15 (l : Launch) (dC : Nat → ClassId) (dI : Nat → Nat → Nat) (cyB cyI cyJ cyZ cyO : ClassId) (sz : Nat) : Met l yX7_isIn wq_k_X7_isIn_v15 ({ frames := 0, cells := 0, slots := 0, locals := 0 }) (va_Pc [.int 1, .int 0, .int 2] (cB (dC, dI) (kT cyB cyI cyJ cyZ cyO) (wc_k_X7_isIn_v15 cyB cyI cyJ cyZ cyO) sz)) (va_Qi (fun (r : Int32) _ => r = 1) (fun (u : Unit) t => cE (dC, dI) (va_A (wc_k_X7_isIn_v15 cyB cyI cyJ cyZ cyO) sz) ([]) t.heap) (va_A (wc_k_X7_isIn_v15 cyB cyI cyJ cyZ cyO) sz)) 0 0 (va_A (wc_k_X7_isIn_v15 cyB cyI cyJ cyZ cyO) sz) := by
  refine Met.ofW (cc := cX7_isIn) (maxL := 3) (ret := (some .boolean)) (by decide) rfl ?_
  intro p e s m args below meth c s₁ B hml hv
  obtain ⟨rfl, hsz, hP, hKN, hD0⟩ := hv
  have hx := B.exec
  have hb := B.bytes
  have hr := B.returns
  have hts := atoms_spec (ws := wq_k_X7_isIn_v15) B.pre
  have hown : s.vm.findClass RX7 = some m.cls := findClass_of_methodNamed B.named
  have hlocks := B.notSynchronized
  have hK := hKN.1
  have hfix : CallFix p m c cX7_isIn 3 s [.int 1, .int 0, .int 2].toArray wq_k_X7_isIn_v15 RX7 := ⟨hx, hb, hml, hown, hts⟩
  subst hsz
  have hD := hD0.self (sz := s.heap.size)
  generalize hAe : va_A (wc_k_X7_isIn_v15 cyB cyI cyJ cyZ cyO) s.heap.size = A at hD ⊢
  have hA : ∀ q : Nat, s.heap.size ≤ q → A q := fun q h => by rw [← hAe]; exact Or.inr h
  have hS : va_S A s.heap s.heap [] := va_S.rf
  have hl := lv_entry ([.int 1, .int 0, .int 2]) (n := 3) (Nat.le_of_ble_eq_true rfl)
  rw [lg_entry_eq]
  generalize (lg_sl ([.int 1, .int 0, .int 2]) ++ List.replicate (3 - (lg_sl ([.int 1, .int 0, .int 2])).length) Slot.unset).toArray = ls at hl ⊢
  have hl : lv_has ls 3 [(0, .int 1), (1, .int 0), (2, .int 2)] := hl
  refine lv_iload_n hx hb dX7_isIn_0 rfl (lv_at hl 0 rfl) ?_
  refine lv_iload_n hx hb dX7_isIn_1 rfl (lv_at hl 1 rfl) ?_
  refine lv_icmp_lt (tgt := 14) hx hb dX7_isIn_2 (by decide) (fun c3641 => absurd c3641 (by decide)) (fun _ => ?_)
  refine lv_iload_n hx hb dX7_isIn_5 rfl (lv_at hl 0 rfl) ?_
  refine lv_iload_n hx hb dX7_isIn_6 rfl (lv_at hl 2 rfl) ?_
  refine lv_icmp_gt (tgt := 14) hx hb dX7_isIn_7 (by decide) (fun c3642 => absurd c3642 (by decide)) (fun _ => ?_)
  refine lv_iconst (v := 1) hx hb dX7_isIn_10 (by decide) ?_
  refine lv_goto (tgt := 15) hx hb dX7_isIn_11 (by decide) ?_
  exact W.zret (v := 1) hx hb hr (by decide) (fun t ht hW => ⟨⟨1, (), rfl, rfl, cE.of ht hP hD [] (by decide) rfl⟩, hS.F ht⟩) hS.2.2 dX7_isIn_15
def wo_k_X7_isIn_v16 : List Cond := []
def wq_k_X7_isIn_v16 : List Cond := .code yX7_isIn cX7_isIn 3 (some .boolean) :: (wo_k_X7_isIn_v16 ++ [])
theorem gd_k_X7_isIn_v16 : Gd wq_k_X7_isIn_v16 := gd_c (gd_a (gd_o (by decide +kernel)) gd_0)
abbrev wc_k_X7_isIn_v16 (cyB cyI cyJ cyZ cyO : ClassId) : va_W := []
set_option maxHeartbeats 4000000 in
set_option maxRecDepth 100000 in
theorem k_X7_isIn_v16 (l : Launch) (dC : Nat → ClassId) (dI : Nat → Nat → Nat) (cyB cyI cyJ cyZ cyO : ClassId) (sz : Nat) : Met l yX7_isIn wq_k_X7_isIn_v16 ({ frames := 0, cells := 0, slots := 0, locals := 0 }) (va_Pc [.int 2, .int 0, .int 2] (cB (dC, dI) (kT cyB cyI cyJ cyZ cyO) (wc_k_X7_isIn_v16 cyB cyI cyJ cyZ cyO) sz)) (va_Qi (fun (r : Int32) _ => r = 1) (fun (u : Unit) t => cE (dC, dI) (va_A (wc_k_X7_isIn_v16 cyB cyI cyJ cyZ cyO) sz) ([]) t.heap) (va_A (wc_k_X7_isIn_v16 cyB cyI cyJ cyZ cyO) sz)) 0 0 (va_A (wc_k_X7_isIn_v16 cyB cyI cyJ cyZ cyO) sz) := by
  refine Met.ofW (cc := cX7_isIn) (maxL := 3) (ret := (some .boolean)) (by decide) rfl ?_
  intro p e s m args below meth c s₁ B hml hv
  obtain ⟨rfl, hsz, hP, hKN, hD0⟩ := hv
  have hx := B.exec
  have hb := B.bytes
  have hr := B.returns
  have hts := atoms_spec (ws := wq_k_X7_isIn_v16) B.pre
  have hown : s.vm.findClass RX7 = some m.cls := findClass_of_methodNamed B.named
  have hlocks := B.notSynchronized
  have hK := hKN.1
  have hfix : CallFix p m c cX7_isIn 3 s [.int 2, .int 0, .int 2].toArray wq_k_X7_isIn_v16 RX7 := ⟨hx, hb, hml, hown, hts⟩
  subst hsz
  have hD := hD0.self (sz := s.heap.size)
  generalize hAe : va_A (wc_k_X7_isIn_v16 cyB cyI cyJ cyZ cyO) s.heap.size = A at hD ⊢
  have hA : ∀ q : Nat, s.heap.size ≤ q → A q := fun q h => by rw [← hAe]; exact Or.inr h
  have hS : va_S A s.heap s.heap [] := va_S.rf
  have hl := lv_entry ([.int 2, .int 0, .int 2]) (n := 3) (Nat.le_of_ble_eq_true rfl)
  rw [lg_entry_eq]
  generalize (lg_sl ([.int 2, .int 0, .int 2]) ++ List.replicate (3 - (lg_sl ([.int 2, .int 0, .int 2])).length) Slot.unset).toArray = ls at hl ⊢
  have hl : lv_has ls 3 [(0, .int 2), (1, .int 0), (2, .int 2)] := hl
  refine lv_iload_n hx hb dX7_isIn_0 rfl (lv_at hl 0 rfl) ?_
  refine lv_iload_n hx hb dX7_isIn_1 rfl (lv_at hl 1 rfl) ?_
  refine lv_icmp_lt (tgt := 14) hx hb dX7_isIn_2 (by decide) (fun c3655 => absurd c3655 (by decide)) (fun _ => ?_)
  refine lv_iload_n hx hb dX7_isIn_5 rfl (lv_at hl 0 rfl) ?_
  refine lv_iload_n hx hb dX7_isIn_6 rfl (lv_at hl 2 rfl) ?_
  refine lv_icmp_gt (tgt := 14) hx hb dX7_isIn_7 (by decide) (fun c3656 => absurd c3656 (by decide)) (fun _ => ?_)
  refine lv_iconst (v := 1) hx hb dX7_isIn_10 (by decide) ?_
  refine lv_goto (tgt := 15) hx hb dX7_isIn_11 (by decide) ?_
  exact W.zret (v := 1) hx hb hr (by decide) (fun t ht hW => ⟨⟨1, (), rfl, rfl, cE.of ht hP hD [] (by decide) rfl⟩, hS.F ht⟩) hS.2.2 dX7_isIn_15
def wo_c_M_image : List Cond := [.methodLink RX7 316 yX7_isIn, .static yX7_isIn, .initialized RX7, .fieldLink RX7 109 "ReplicaChainModel" "isBoxed" "[Z", .fieldLink RX7 76 "ReplicaChainModel" "all" "[I", .fieldLink RX7 106 "ReplicaChainModel" "boxAll" "[I"]
def wq_c_M_image : List Cond := .code yX7_image cX7_image 3 (some .int) :: (wo_c_M_image ++ (wq_k_X7_isIn_v14 ++ (wq_k_X7_isIn_v15 ++ (wq_k_X7_isIn_v16 ++ (wq_k_X7_isIn_v6 ++ (wsX70 ++ []))))))
theorem gd_c_M_image : Gd wq_c_M_image := gd_c (gd_a (gd_o (by decide +kernel)) (gd_a gd_k_X7_isIn_v14 (gd_a gd_k_X7_isIn_v15 (gd_a gd_k_X7_isIn_v16 (gd_a gd_k_X7_isIn_v6 (gd_a gd_u gd_0))))))
abbrev wc_c_M_image (cyB cyI cyJ cyZ cyO : ClassId) (h1 : Nat) (md : Nat → Nat) (g : Nat → Int32) (x1 : Int32) : va_W := [(h1, .inr (7, [.ref (md 0), .ref (md 1), .int 0, .int 0, .int 0, .int (-1), .int 0, .int 0, .int 0, .int 0, .long 0, .ref (md 11), .ref (md 12), .ref (md 13), .ref (md 14), .ref (md 15), .ref (md 16), .ref (md 17), .ref (md 18), .ref (md 19), .ref (md 20), .ref (md 21), .ref (md 22), .ref (md 23), .ref (md 24), .ref (md 25), .ref (md 26), .ref (md 27), .ref (md 28), .int 0, .int 0, .int 0, .int 0, .int 0, .int 0, .int 0, .int 0, .int 0, .int 0, .int 0, .ref (md 40), .ref (md 41), .int 0, .int 0, .ref (md 44), .int 0, .int 0, .ref (md 47), .ref (md 48), .int 0, .ref (md 50), .ref (md 51), .ref (md 52), .ref (md 53), .ref (md 54), .int 0, .int 0, .ref (md 57), .ref (md 58)])), (md 40, .inl (cyI, 520, .inl g)), (md 57, .inl (cyI, 1560, .inl (fun _ => 0))), (md 58, .inl (cyZ, 3, .inl (fun _ => 0)))]
set_option maxHeartbeats 4000000 in
set_option maxRecDepth 100000 in
theorem c_M_image (l : Launch) (dC : Nat → ClassId) (dI : Nat → Nat → Nat) (cyB cyI cyJ cyZ cyO : ClassId) (h1 : Nat) (md : Nat → Nat) (g : Nat → Int32) (x1 : Int32) (sz : Nat) (hg : AllZ g) : Met l yX7_image wq_c_M_image ({ frames := 1, cells := 0, slots := 0, locals := 22 }) (va_Pc [.ref h1, .int x1] (cB (dC, dI) (kT cyB cyI cyJ cyZ cyO) (wc_c_M_image cyB cyI cyJ cyZ cyO h1 md g x1) sz)) (va_Qi (fun (r : Int32) (_ : Unit) => r = sp_image x1) (fun (u : Unit) t => cE (dC, dI) (va_A (wc_c_M_image cyB cyI cyJ cyZ cyO h1 md g x1) sz) ([]) t.heap) (va_A (wc_c_M_image cyB cyI cyJ cyZ cyO h1 md g x1) sz)) 0 0 (va_A (wc_c_M_image cyB cyI cyJ cyZ cyO h1 md g x1) sz) := by
  refine Met.ofW (cc := cX7_image) (maxL := 3) (ret := (some .int)) (by decide) rfl ?_
  intro p e s m args below meth c s₁ B hml hv
  obtain ⟨rfl, hsz, hP, hKN, hD0⟩ := hv
  have hx := B.exec
  have hb := B.bytes
  have hr := B.returns
  have hts := atoms_spec (ws := wq_c_M_image) B.pre
  have hown : s.vm.findClass RX7 = some m.cls := findClass_of_methodNamed B.named
  have hlocks := B.notSynchronized
  have hK := hKN.1
  have hfix : CallFix p m c cX7_image 3 s [.ref h1, .int x1].toArray wq_c_M_image RX7 := ⟨hx, hb, hml, hown, hts⟩
  have hi7 : ∀ w ∈ wsX70, w ∈ wq_c_M_image := (sb_c (sb_r (sb_r (sb_r (sb_r sb_l)))))
  subst hsz
  have hD := hD0.self (sz := s.heap.size)
  generalize hAe : va_A (wc_c_M_image cyB cyI cyJ cyZ cyO h1 md g x1) s.heap.size = A at hD ⊢
  have hA : ∀ q : Nat, s.heap.size ≤ q → A q := fun q h => by rw [← hAe]; exact Or.inr h
  have hS : va_S A s.heap s.heap [] := va_S.rf
  have hl := lv_entry ([.ref h1, .int x1]) (n := 3) (Nat.le_of_ble_eq_true rfl)
  rw [lg_entry_eq]
  generalize (lg_sl ([.ref h1, .int x1]) ++ List.replicate (3 - (lg_sl ([.ref h1, .int x1])).length) Slot.unset).toArray = ls at hl ⊢
  have hl : lv_has ls 3 [(0, .ref h1), (1, .int x1)] := hl
  by_cases c3677 : x1 = 0
  · subst c3677
    have tc3677 : (0 : Int32).toInt = 0 := by decide
    have hl : lv_has ls 3 [(0, .ref h1), (1, .int 0)] := hl
    refine lv_iload_n hx hb dX7_image_0 rfl (lv_at hl 1 rfl) ?_
    refine lv_iconst (v := 0) hx hb dX7_image_1 (by decide) ?_
    refine lv_iconst (v := 2) hx hb dX7_image_2 (by decide) ?_
    refine gf_i (wr := [(h1, .inr (7, [.ref (md 0), .ref (md 1), .int 0, .int 0, .int 0, .int (-1), .int 0, .int 0, .int 0, .int 0, .long 0, .ref (md 11), .ref (md 12), .ref (md 13), .ref (md 14), .ref (md 15), .ref (md 16), .ref (md 17), .ref (md 18), .ref (md 19), .ref (md 20), .ref (md 21), .ref (md 22), .ref (md 23), .ref (md 24), .ref (md 25), .ref (md 26), .ref (md 27), .ref (md 28), .int 0, .int 0, .int 0, .int 0, .int 0, .int 0, .int 0, .int 0, .int 0, .int 0, .int 0, .ref (md 40), .ref (md 41), .int 0, .int 0, .ref (md 44), .int 0, .int 0, .ref (md 47), .ref (md 48), .int 0, .ref (md 50), .ref (md 51), .ref (md 52), .ref (md 53), .ref (md 54), .int 0, .int 0, .ref (md 57), .ref (md 58)])), (md 40, .inl (cyI, 520, .inl g)), (md 57, .inl (cyI, 1560, .inl (fun _ => 0))), (md 58, .inl (cyZ, 3, .inl (fun _ => 0)))]) (va_runS (As := [.int 0, .int 0, .int 2]) (rest := []) hfix (k_X7_isIn_v14 l dC dI cyB cyI cyJ cyZ cyO _) (va_cwS 3 hts (gi_S (ow_m (k := 0) rfl) (ow_m (k := 1) rfl) (ow_m (k := 2) rfl) (sb_c sb_l) gd_k_X7_isIn_v14) rfl rfl rfl (by decide +kernel) ⟨Nat.le_of_ble_eq_true rfl, Nat.le_of_ble_eq_true rfl⟩) (g_preS hKN hP hD [] rfl (by decide)) rfl rfl hl.1 rfl (lv_room (Nat.le_of_ble_eq_true rfl)) dX7_image_3 ⟨Nat.le_of_ble_eq_true rfl, Nat.le_of_ble_eq_true rfl⟩) hP hD hS hA [] [0, 1, 2, 3] rfl rfl (by decide) (by decide) (fun r3680 u3681 H locs qu3681 hP hD hS => ?_)
    have hP : va_P (dC, dI) vwCl [(h1, .inr (7, [.ref (md 0), .ref (md 1), .int 0, .int 0, .int 0, .int (-1), .int 0, .int 0, .int 0, .int 0, .long 0, .ref (md 11), .ref (md 12), .ref (md 13), .ref (md 14), .ref (md 15), .ref (md 16), .ref (md 17), .ref (md 18), .ref (md 19), .ref (md 20), .ref (md 21), .ref (md 22), .ref (md 23), .ref (md 24), .ref (md 25), .ref (md 26), .ref (md 27), .ref (md 28), .int 0, .int 0, .int 0, .int 0, .int 0, .int 0, .int 0, .int 0, .int 0, .int 0, .int 0, .ref (md 40), .ref (md 41), .int 0, .int 0, .ref (md 44), .int 0, .int 0, .ref (md 47), .ref (md 48), .int 0, .ref (md 50), .ref (md 51), .ref (md 52), .ref (md 53), .ref (md 54), .int 0, .int 0, .ref (md 57), .ref (md 58)])), (md 40, .inl (cyI, 520, .inl g)), (md 57, .inl (cyI, 1560, .inl (fun _ => 0))), (md 58, .inl (cyZ, 3, .inl (fun _ => 0)))] H := hP
    have hD : va_D A [(h1, .inr (7, [.ref (md 0), .ref (md 1), .int 0, .int 0, .int 0, .int (-1), .int 0, .int 0, .int 0, .int 0, .long 0, .ref (md 11), .ref (md 12), .ref (md 13), .ref (md 14), .ref (md 15), .ref (md 16), .ref (md 17), .ref (md 18), .ref (md 19), .ref (md 20), .ref (md 21), .ref (md 22), .ref (md 23), .ref (md 24), .ref (md 25), .ref (md 26), .ref (md 27), .ref (md 28), .int 0, .int 0, .int 0, .int 0, .int 0, .int 0, .int 0, .int 0, .int 0, .int 0, .int 0, .ref (md 40), .ref (md 41), .int 0, .int 0, .ref (md 44), .int 0, .int 0, .ref (md 47), .ref (md 48), .int 0, .ref (md 50), .ref (md 51), .ref (md 52), .ref (md 53), .ref (md 54), .int 0, .int 0, .ref (md 57), .ref (md 58)])), (md 40, .inl (cyI, 520, .inl g)), (md 57, .inl (cyI, 1560, .inl (fun _ => 0))), (md 58, .inl (cyZ, 3, .inl (fun _ => 0)))] := hD
    refine tp_c (w := 1) qu3681 ?_
    refine lv_if_ne (tgt := 11) hx hb dX7_image_6 (by decide) (fun _ => ?_) (fun c3682 => absurd c3682 (by decide))
    refine lv_iconst (v := 0) hx hb dX7_image_11 (by decide) ?_
    refine lv_istore_n (lv' := [(2, .int 0), (0, .ref h1), (1, .int 0)]) hx hb dX7_image_12 rfl hl (by decide) rfl (fun ls hl => ?_)
    refine w_gen (fun H locs ls hP hS hl => ?_) hP hS hl
    obtain ⟨k, hk, hl2⟩ : ∃ k : Nat, k + 520 = 520 ∧ lv_has ls 3 [(2, .int (nI k)), (0, .ref h1), (1, .int 0)] := ⟨0, Nat.zero_add _, hl⟩
    obtain ⟨n, hkn⟩ : ∃ n : Nat, k + n = 520 := ⟨520, hk⟩
    obtain ⟨f3683, hP2, hD2⟩ : ∃ (f3683 : Nat → Int32), va_P (dC, dI) vwCl [(h1, .inr (7, [.ref (md 0), .ref (md 1), .int 0, .int 0, .int 0, .int (-1), .int 0, .int 0, .int 0, .int 0, .long 0, .ref (md 11), .ref (md 12), .ref (md 13), .ref (md 14), .ref (md 15), .ref (md 16), .ref (md 17), .ref (md 18), .ref (md 19), .ref (md 20), .ref (md 21), .ref (md 22), .ref (md 23), .ref (md 24), .ref (md 25), .ref (md 26), .ref (md 27), .ref (md 28), .int 0, .int 0, .int 0, .int 0, .int 0, .int 0, .int 0, .int 0, .int 0, .int 0, .int 0, .ref (md 40), .ref (md 41), .int 0, .int 0, .ref (md 44), .int 0, .int 0, .ref (md 47), .ref (md 48), .int 0, .ref (md 50), .ref (md 51), .ref (md 52), .ref (md 53), .ref (md 54), .int 0, .int 0, .ref (md 57), .ref (md 58)])), (md 40, .inl (cyI, 520, .inl g)), (md 57, .inl (cyI, 1560, .inl f3683)), (md 58, .inl (cyZ, 3, .inl (fun _ => 0)))] H ∧ va_D A [(h1, .inr (7, [.ref (md 0), .ref (md 1), .int 0, .int 0, .int 0, .int (-1), .int 0, .int 0, .int 0, .int 0, .long 0, .ref (md 11), .ref (md 12), .ref (md 13), .ref (md 14), .ref (md 15), .ref (md 16), .ref (md 17), .ref (md 18), .ref (md 19), .ref (md 20), .ref (md 21), .ref (md 22), .ref (md 23), .ref (md 24), .ref (md 25), .ref (md 26), .ref (md 27), .ref (md 28), .int 0, .int 0, .int 0, .int 0, .int 0, .int 0, .int 0, .int 0, .int 0, .int 0, .int 0, .ref (md 40), .ref (md 41), .int 0, .int 0, .ref (md 44), .int 0, .int 0, .ref (md 47), .ref (md 48), .int 0, .ref (md 50), .ref (md 51), .ref (md 52), .ref (md 53), .ref (md 54), .int 0, .int 0, .ref (md 57), .ref (md 58)])), (md 40, .inl (cyI, 520, .inl g)), (md 57, .inl (cyI, 1560, .inl f3683)), (md 58, .inl (cyZ, 3, .inl (fun _ => 0)))] := ⟨_, hP, hD⟩
    clear hk hP hl
    have hP := hP2
    have hD := hD2
    have hl := hl2
    clear hP2 hD2 hl2
    induction n generalizing k f3683 H locs ls with
    | zero =>
      obtain rfl : k = 520 := by omega
      refine lv_iload_n hx hb dX7_image_13 rfl (lv_at hl 0 rfl) ?_
      refine lv_sipush (v := 520) hx hb dX7_image_14 (by decide) ?_
      refine lv_icmp_ge (tgt := 44) hx hb dX7_image_17 (by decide) (fun _ => ?_) (fun c3684 => absurd (by decide) c3684)
      refine lv_aload_n hx hb dX7_image_44 rfl (lv_at hl 1 rfl) ?_
      refine va_get (D := (dC, dI)) (ci := 7) (v := .ref (md 58)) (C := RX7) (T := TX7) (N := 59) hx hb hts hi7 hown hK hP 0 rfl rfl 58 (by decide) (hts _ (ow_m (k := 3) rfl)) (fun _ h9 => h9) rfl dX7_image_45 ?_
      refine lv_iload_n hx hb dX7_image_48 rfl (lv_at hl 2 rfl) ?_
      refine lv_iconst (v := 1) hx hb dX7_image_49 (by decide) ?_
      refine va_zast hx hb hK hP hD hS 3 3 rfl rfl (vp_i (a := 0) (by decide) (by decide) (by decide)) dX7_image_50 (fun H locs hP hD hS => ?_)
      have hP : va_P (dC, dI) vwCl [(h1, .inr (7, [.ref (md 0), .ref (md 1), .int 0, .int 0, .int 0, .int (-1), .int 0, .int 0, .int 0, .int 0, .long 0, .ref (md 11), .ref (md 12), .ref (md 13), .ref (md 14), .ref (md 15), .ref (md 16), .ref (md 17), .ref (md 18), .ref (md 19), .ref (md 20), .ref (md 21), .ref (md 22), .ref (md 23), .ref (md 24), .ref (md 25), .ref (md 26), .ref (md 27), .ref (md 28), .int 0, .int 0, .int 0, .int 0, .int 0, .int 0, .int 0, .int 0, .int 0, .int 0, .int 0, .ref (md 40), .ref (md 41), .int 0, .int 0, .ref (md 44), .int 0, .int 0, .ref (md 47), .ref (md 48), .int 0, .ref (md 50), .ref (md 51), .ref (md 52), .ref (md 53), .ref (md 54), .int 0, .int 0, .ref (md 57), .ref (md 58)])), (md 40, .inl (cyI, 520, .inl g)), (md 57, .inl (cyI, 1560, .inl f3683)), (md 58, .inl (cyZ, 3, .inl (upd (fun _ => 0) 0 1)))] H := hP
      have hD : va_D A [(h1, .inr (7, [.ref (md 0), .ref (md 1), .int 0, .int 0, .int 0, .int (-1), .int 0, .int 0, .int 0, .int 0, .long 0, .ref (md 11), .ref (md 12), .ref (md 13), .ref (md 14), .ref (md 15), .ref (md 16), .ref (md 17), .ref (md 18), .ref (md 19), .ref (md 20), .ref (md 21), .ref (md 22), .ref (md 23), .ref (md 24), .ref (md 25), .ref (md 26), .ref (md 27), .ref (md 28), .int 0, .int 0, .int 0, .int 0, .int 0, .int 0, .int 0, .int 0, .int 0, .int 0, .int 0, .ref (md 40), .ref (md 41), .int 0, .int 0, .ref (md 44), .int 0, .int 0, .ref (md 47), .ref (md 48), .int 0, .ref (md 50), .ref (md 51), .ref (md 52), .ref (md 53), .ref (md 54), .int 0, .int 0, .ref (md 57), .ref (md 58)])), (md 40, .inl (cyI, 520, .inl g)), (md 57, .inl (cyI, 1560, .inl f3683)), (md 58, .inl (cyZ, 3, .inl (upd (fun _ => 0) 0 1)))] := hD
      refine lv_aload_n hx hb dX7_image_51 rfl (lv_at hl 1 rfl) ?_
      refine va_get (D := (dC, dI)) (ci := 7) (v := .ref (md 40)) (C := RX7) (T := TX7) (N := 59) hx hb hts hi7 hown hK hP 0 rfl rfl 40 (by decide) (hts _ (ow_m (k := 4) rfl)) (fun _ h9 => h9) rfl dX7_image_52 ?_
      refine lv_bipush (v := 108) hx hb dX7_image_55 (by decide) ?_
      refine va_iald hx hb hK hP 1 1 rfl rfl (vp_i (a := 108) (by decide) (by decide) (by decide)) dX7_image_57 ?_
      refine tp_c (w := 0) (hg 108 (by decide)) ?_
      exact W.iret (v := 0) hx hb hr (fun t ht hW => ⟨⟨0, (), rfl, (by first | decide | (unfold sp_image; (repeat' split) <;> first | rfl | omega)), cE.nil⟩, hS.F ht⟩) hS.2.2 dX7_image_58
    | succ n ih =>
      refine lv_iload_n hx hb dX7_image_13 rfl (lv_at hl 0 rfl) ?_
      refine lv_sipush (v := 520) hx hb dX7_image_14 (by decide) ?_
      refine lv_icmp_ge (tgt := 44) hx hb dX7_image_17 (by decide) (fun c3685 => ?_) (fun c3685 => ?_)
      · have c3685 := i_le (a := 520) (b := (k : Int)) c3685 (by decide) (nI_toInt (by omega))
        exfalso; omega
      · have c3685 := i_nle (a := 520) (b := (k : Int)) c3685 (by decide) (nI_toInt (by omega))
        refine lv_aload_n hx hb dX7_image_20 rfl (lv_at hl 1 rfl) ?_
        refine va_get (D := (dC, dI)) (ci := 7) (v := .ref (md 57)) (C := RX7) (T := TX7) (N := 59) hx hb hts hi7 hown hK hP 0 rfl rfl 57 (by decide) (hts _ (ow_m (k := 5) rfl)) (fun _ h9 => h9) rfl dX7_image_21 ?_
        refine lv_sipush (v := 520) hx hb dX7_image_24 (by decide) ?_
        refine lv_iload_n hx hb dX7_image_27 rfl (lv_at hl 2 rfl) ?_
        refine lv_imul hx hb dX7_image_28 ?_
        refine tp_c (w := 0) (by decide) ?_
        refine lv_iload_n hx hb dX7_image_29 rfl (lv_at hl 0 rfl) ?_
        refine lv_iadd hx hb dX7_image_30 ?_
        refine tp_c (w := (nI k)) (Int32.zero_add  (nI k)) ?_
        refine lv_aload_n hx hb dX7_image_31 rfl (lv_at hl 1 rfl) ?_
        refine va_get (D := (dC, dI)) (ci := 7) (v := .ref (md 40)) (C := RX7) (T := TX7) (N := 59) hx hb hts hi7 hown hK hP 0 rfl rfl 40 (by decide) (hts _ (ow_m (k := 4) rfl)) (fun _ h9 => h9) rfl dX7_image_32 ?_
        refine lv_iload_n hx hb dX7_image_35 rfl (lv_at hl 0 rfl) ?_
        refine va_iald hx hb hK hP 1 1 rfl rfl (vp_i (nI_toInt (by omega)) (by omega) (by omega)) dX7_image_36 ?_
        refine lv_topi (fun z3686 ez3686 => ?_)
        refine va_iast hx hb hK hP hD hS 2 1 rfl rfl (vp_i (nI_toInt (by omega)) (by omega) (by omega)) dX7_image_37 (fun H locs hP hD hS => ?_)
        have hP : va_P (dC, dI) vwCl [(h1, .inr (7, [.ref (md 0), .ref (md 1), .int 0, .int 0, .int 0, .int (-1), .int 0, .int 0, .int 0, .int 0, .long 0, .ref (md 11), .ref (md 12), .ref (md 13), .ref (md 14), .ref (md 15), .ref (md 16), .ref (md 17), .ref (md 18), .ref (md 19), .ref (md 20), .ref (md 21), .ref (md 22), .ref (md 23), .ref (md 24), .ref (md 25), .ref (md 26), .ref (md 27), .ref (md 28), .int 0, .int 0, .int 0, .int 0, .int 0, .int 0, .int 0, .int 0, .int 0, .int 0, .int 0, .ref (md 40), .ref (md 41), .int 0, .int 0, .ref (md 44), .int 0, .int 0, .ref (md 47), .ref (md 48), .int 0, .ref (md 50), .ref (md 51), .ref (md 52), .ref (md 53), .ref (md 54), .int 0, .int 0, .ref (md 57), .ref (md 58)])), (md 40, .inl (cyI, 520, .inl g)), (md 57, .inl (cyI, 1560, .inl (upd f3683 (nI k).toNatClampNeg z3686))), (md 58, .inl (cyZ, 3, .inl (fun _ => 0)))] H := hP
        have hD : va_D A [(h1, .inr (7, [.ref (md 0), .ref (md 1), .int 0, .int 0, .int 0, .int (-1), .int 0, .int 0, .int 0, .int 0, .long 0, .ref (md 11), .ref (md 12), .ref (md 13), .ref (md 14), .ref (md 15), .ref (md 16), .ref (md 17), .ref (md 18), .ref (md 19), .ref (md 20), .ref (md 21), .ref (md 22), .ref (md 23), .ref (md 24), .ref (md 25), .ref (md 26), .ref (md 27), .ref (md 28), .int 0, .int 0, .int 0, .int 0, .int 0, .int 0, .int 0, .int 0, .int 0, .int 0, .int 0, .ref (md 40), .ref (md 41), .int 0, .int 0, .ref (md 44), .int 0, .int 0, .ref (md 47), .ref (md 48), .int 0, .ref (md 50), .ref (md 51), .ref (md 52), .ref (md 53), .ref (md 54), .int 0, .int 0, .ref (md 57), .ref (md 58)])), (md 40, .inl (cyI, 520, .inl g)), (md 57, .inl (cyI, 1560, .inl (upd f3683 (nI k).toNatClampNeg z3686))), (md 58, .inl (cyZ, 3, .inl (fun _ => 0)))] := hD
        generalize upd f3683 (nI k).toNatClampNeg z3686 = f3687 at hP hD
        refine lv_iinc (v := nI (k + 1)) (lv' := [(2, .int (nI (k + 1))), (0, .ref h1), (1, .int 0)]) hx hb dX7_image_38 hl (k := 0) rfl (nI_1 k) (by decide) rfl (fun ls hl => ?_)
        refine lv_goto (tgt := 13) hx hb dX7_image_41 (by decide) ?_
        have hl := lv_sub (l' := [(2, .int (nI (k + 1))), (0, .ref h1), (1, .int 0)]) hl [0, 1, 2] rfl
        apply ih (k := k + 1) (f3683 := f3687) <;> first | assumption | omega
  have c3677i := i_ne (b := 0) c3677 rfl (by decide)
  by_cases c3688 : x1 = 1
  · subst c3688
    have tc3688 : (1 : Int32).toInt = 1 := by decide
    have hl : lv_has ls 3 [(0, .ref h1), (1, .int 1)] := hl
    refine lv_iload_n hx hb dX7_image_0 rfl (lv_at hl 1 rfl) ?_
    refine lv_iconst (v := 0) hx hb dX7_image_1 (by decide) ?_
    refine lv_iconst (v := 2) hx hb dX7_image_2 (by decide) ?_
    refine gf_i (wr := [(h1, .inr (7, [.ref (md 0), .ref (md 1), .int 0, .int 0, .int 0, .int (-1), .int 0, .int 0, .int 0, .int 0, .long 0, .ref (md 11), .ref (md 12), .ref (md 13), .ref (md 14), .ref (md 15), .ref (md 16), .ref (md 17), .ref (md 18), .ref (md 19), .ref (md 20), .ref (md 21), .ref (md 22), .ref (md 23), .ref (md 24), .ref (md 25), .ref (md 26), .ref (md 27), .ref (md 28), .int 0, .int 0, .int 0, .int 0, .int 0, .int 0, .int 0, .int 0, .int 0, .int 0, .int 0, .ref (md 40), .ref (md 41), .int 0, .int 0, .ref (md 44), .int 0, .int 0, .ref (md 47), .ref (md 48), .int 0, .ref (md 50), .ref (md 51), .ref (md 52), .ref (md 53), .ref (md 54), .int 0, .int 0, .ref (md 57), .ref (md 58)])), (md 40, .inl (cyI, 520, .inl g)), (md 57, .inl (cyI, 1560, .inl (fun _ => 0))), (md 58, .inl (cyZ, 3, .inl (fun _ => 0)))]) (va_runS (As := [.int 1, .int 0, .int 2]) (rest := []) hfix (k_X7_isIn_v15 l dC dI cyB cyI cyJ cyZ cyO _) (va_cwS 3 hts (gi_S (ow_m (k := 0) rfl) (ow_m (k := 1) rfl) (ow_m (k := 2) rfl) (sb_c (sb_r sb_l)) gd_k_X7_isIn_v15) rfl rfl rfl (by decide +kernel) ⟨Nat.le_of_ble_eq_true rfl, Nat.le_of_ble_eq_true rfl⟩) (g_preS hKN hP hD [] rfl (by decide)) rfl rfl hl.1 rfl (lv_room (Nat.le_of_ble_eq_true rfl)) dX7_image_3 ⟨Nat.le_of_ble_eq_true rfl, Nat.le_of_ble_eq_true rfl⟩) hP hD hS hA [] [0, 1, 2, 3] rfl rfl (by decide) (by decide) (fun r3691 u3692 H locs qu3692 hP hD hS => ?_)
    have hP : va_P (dC, dI) vwCl [(h1, .inr (7, [.ref (md 0), .ref (md 1), .int 0, .int 0, .int 0, .int (-1), .int 0, .int 0, .int 0, .int 0, .long 0, .ref (md 11), .ref (md 12), .ref (md 13), .ref (md 14), .ref (md 15), .ref (md 16), .ref (md 17), .ref (md 18), .ref (md 19), .ref (md 20), .ref (md 21), .ref (md 22), .ref (md 23), .ref (md 24), .ref (md 25), .ref (md 26), .ref (md 27), .ref (md 28), .int 0, .int 0, .int 0, .int 0, .int 0, .int 0, .int 0, .int 0, .int 0, .int 0, .int 0, .ref (md 40), .ref (md 41), .int 0, .int 0, .ref (md 44), .int 0, .int 0, .ref (md 47), .ref (md 48), .int 0, .ref (md 50), .ref (md 51), .ref (md 52), .ref (md 53), .ref (md 54), .int 0, .int 0, .ref (md 57), .ref (md 58)])), (md 40, .inl (cyI, 520, .inl g)), (md 57, .inl (cyI, 1560, .inl (fun _ => 0))), (md 58, .inl (cyZ, 3, .inl (fun _ => 0)))] H := hP
    have hD : va_D A [(h1, .inr (7, [.ref (md 0), .ref (md 1), .int 0, .int 0, .int 0, .int (-1), .int 0, .int 0, .int 0, .int 0, .long 0, .ref (md 11), .ref (md 12), .ref (md 13), .ref (md 14), .ref (md 15), .ref (md 16), .ref (md 17), .ref (md 18), .ref (md 19), .ref (md 20), .ref (md 21), .ref (md 22), .ref (md 23), .ref (md 24), .ref (md 25), .ref (md 26), .ref (md 27), .ref (md 28), .int 0, .int 0, .int 0, .int 0, .int 0, .int 0, .int 0, .int 0, .int 0, .int 0, .int 0, .ref (md 40), .ref (md 41), .int 0, .int 0, .ref (md 44), .int 0, .int 0, .ref (md 47), .ref (md 48), .int 0, .ref (md 50), .ref (md 51), .ref (md 52), .ref (md 53), .ref (md 54), .int 0, .int 0, .ref (md 57), .ref (md 58)])), (md 40, .inl (cyI, 520, .inl g)), (md 57, .inl (cyI, 1560, .inl (fun _ => 0))), (md 58, .inl (cyZ, 3, .inl (fun _ => 0)))] := hD
    refine tp_c (w := 1) qu3692 ?_
    refine lv_if_ne (tgt := 11) hx hb dX7_image_6 (by decide) (fun _ => ?_) (fun c3693 => absurd c3693 (by decide))
    refine lv_iconst (v := 0) hx hb dX7_image_11 (by decide) ?_
    refine lv_istore_n (lv' := [(2, .int 0), (0, .ref h1), (1, .int 1)]) hx hb dX7_image_12 rfl hl (by decide) rfl (fun ls hl => ?_)
    refine w_gen (fun H locs ls hP hS hl => ?_) hP hS hl
    obtain ⟨k, hk, hl2⟩ : ∃ k : Nat, k + 520 = 520 ∧ lv_has ls 3 [(2, .int (nI k)), (0, .ref h1), (1, .int 1)] := ⟨0, Nat.zero_add _, hl⟩
    obtain ⟨n, hkn⟩ : ∃ n : Nat, k + n = 520 := ⟨520, hk⟩
    obtain ⟨f3694, hP2, hD2⟩ : ∃ (f3694 : Nat → Int32), va_P (dC, dI) vwCl [(h1, .inr (7, [.ref (md 0), .ref (md 1), .int 0, .int 0, .int 0, .int (-1), .int 0, .int 0, .int 0, .int 0, .long 0, .ref (md 11), .ref (md 12), .ref (md 13), .ref (md 14), .ref (md 15), .ref (md 16), .ref (md 17), .ref (md 18), .ref (md 19), .ref (md 20), .ref (md 21), .ref (md 22), .ref (md 23), .ref (md 24), .ref (md 25), .ref (md 26), .ref (md 27), .ref (md 28), .int 0, .int 0, .int 0, .int 0, .int 0, .int 0, .int 0, .int 0, .int 0, .int 0, .int 0, .ref (md 40), .ref (md 41), .int 0, .int 0, .ref (md 44), .int 0, .int 0, .ref (md 47), .ref (md 48), .int 0, .ref (md 50), .ref (md 51), .ref (md 52), .ref (md 53), .ref (md 54), .int 0, .int 0, .ref (md 57), .ref (md 58)])), (md 40, .inl (cyI, 520, .inl g)), (md 57, .inl (cyI, 1560, .inl f3694)), (md 58, .inl (cyZ, 3, .inl (fun _ => 0)))] H ∧ va_D A [(h1, .inr (7, [.ref (md 0), .ref (md 1), .int 0, .int 0, .int 0, .int (-1), .int 0, .int 0, .int 0, .int 0, .long 0, .ref (md 11), .ref (md 12), .ref (md 13), .ref (md 14), .ref (md 15), .ref (md 16), .ref (md 17), .ref (md 18), .ref (md 19), .ref (md 20), .ref (md 21), .ref (md 22), .ref (md 23), .ref (md 24), .ref (md 25), .ref (md 26), .ref (md 27), .ref (md 28), .int 0, .int 0, .int 0, .int 0, .int 0, .int 0, .int 0, .int 0, .int 0, .int 0, .int 0, .ref (md 40), .ref (md 41), .int 0, .int 0, .ref (md 44), .int 0, .int 0, .ref (md 47), .ref (md 48), .int 0, .ref (md 50), .ref (md 51), .ref (md 52), .ref (md 53), .ref (md 54), .int 0, .int 0, .ref (md 57), .ref (md 58)])), (md 40, .inl (cyI, 520, .inl g)), (md 57, .inl (cyI, 1560, .inl f3694)), (md 58, .inl (cyZ, 3, .inl (fun _ => 0)))] := ⟨_, hP, hD⟩
    clear hk hP hl
    have hP := hP2
    have hD := hD2
    have hl := hl2
    clear hP2 hD2 hl2
    induction n generalizing k f3694 H locs ls with
    | zero =>
      obtain rfl : k = 520 := by omega
      refine lv_iload_n hx hb dX7_image_13 rfl (lv_at hl 0 rfl) ?_
      refine lv_sipush (v := 520) hx hb dX7_image_14 (by decide) ?_
      refine lv_icmp_ge (tgt := 44) hx hb dX7_image_17 (by decide) (fun _ => ?_) (fun c3695 => absurd (by decide) c3695)
      refine lv_aload_n hx hb dX7_image_44 rfl (lv_at hl 1 rfl) ?_
      refine va_get (D := (dC, dI)) (ci := 7) (v := .ref (md 58)) (C := RX7) (T := TX7) (N := 59) hx hb hts hi7 hown hK hP 0 rfl rfl 58 (by decide) (hts _ (ow_m (k := 3) rfl)) (fun _ h9 => h9) rfl dX7_image_45 ?_
      refine lv_iload_n hx hb dX7_image_48 rfl (lv_at hl 2 rfl) ?_
      refine lv_iconst (v := 1) hx hb dX7_image_49 (by decide) ?_
      refine va_zast hx hb hK hP hD hS 3 3 rfl rfl (vp_i (a := 1) (by decide) (by decide) (by decide)) dX7_image_50 (fun H locs hP hD hS => ?_)
      have hP : va_P (dC, dI) vwCl [(h1, .inr (7, [.ref (md 0), .ref (md 1), .int 0, .int 0, .int 0, .int (-1), .int 0, .int 0, .int 0, .int 0, .long 0, .ref (md 11), .ref (md 12), .ref (md 13), .ref (md 14), .ref (md 15), .ref (md 16), .ref (md 17), .ref (md 18), .ref (md 19), .ref (md 20), .ref (md 21), .ref (md 22), .ref (md 23), .ref (md 24), .ref (md 25), .ref (md 26), .ref (md 27), .ref (md 28), .int 0, .int 0, .int 0, .int 0, .int 0, .int 0, .int 0, .int 0, .int 0, .int 0, .int 0, .ref (md 40), .ref (md 41), .int 0, .int 0, .ref (md 44), .int 0, .int 0, .ref (md 47), .ref (md 48), .int 0, .ref (md 50), .ref (md 51), .ref (md 52), .ref (md 53), .ref (md 54), .int 0, .int 0, .ref (md 57), .ref (md 58)])), (md 40, .inl (cyI, 520, .inl g)), (md 57, .inl (cyI, 1560, .inl f3694)), (md 58, .inl (cyZ, 3, .inl (upd (fun _ => 0) 1 1)))] H := hP
      have hD : va_D A [(h1, .inr (7, [.ref (md 0), .ref (md 1), .int 0, .int 0, .int 0, .int (-1), .int 0, .int 0, .int 0, .int 0, .long 0, .ref (md 11), .ref (md 12), .ref (md 13), .ref (md 14), .ref (md 15), .ref (md 16), .ref (md 17), .ref (md 18), .ref (md 19), .ref (md 20), .ref (md 21), .ref (md 22), .ref (md 23), .ref (md 24), .ref (md 25), .ref (md 26), .ref (md 27), .ref (md 28), .int 0, .int 0, .int 0, .int 0, .int 0, .int 0, .int 0, .int 0, .int 0, .int 0, .int 0, .ref (md 40), .ref (md 41), .int 0, .int 0, .ref (md 44), .int 0, .int 0, .ref (md 47), .ref (md 48), .int 0, .ref (md 50), .ref (md 51), .ref (md 52), .ref (md 53), .ref (md 54), .int 0, .int 0, .ref (md 57), .ref (md 58)])), (md 40, .inl (cyI, 520, .inl g)), (md 57, .inl (cyI, 1560, .inl f3694)), (md 58, .inl (cyZ, 3, .inl (upd (fun _ => 0) 1 1)))] := hD
      refine lv_aload_n hx hb dX7_image_51 rfl (lv_at hl 1 rfl) ?_
      refine va_get (D := (dC, dI)) (ci := 7) (v := .ref (md 40)) (C := RX7) (T := TX7) (N := 59) hx hb hts hi7 hown hK hP 0 rfl rfl 40 (by decide) (hts _ (ow_m (k := 4) rfl)) (fun _ h9 => h9) rfl dX7_image_52 ?_
      refine lv_bipush (v := 108) hx hb dX7_image_55 (by decide) ?_
      refine va_iald hx hb hK hP 1 1 rfl rfl (vp_i (a := 108) (by decide) (by decide) (by decide)) dX7_image_57 ?_
      refine tp_c (w := 0) (hg 108 (by decide)) ?_
      exact W.iret (v := 0) hx hb hr (fun t ht hW => ⟨⟨0, (), rfl, (by first | decide | (unfold sp_image; (repeat' split) <;> first | rfl | omega)), cE.nil⟩, hS.F ht⟩) hS.2.2 dX7_image_58
    | succ n ih =>
      refine lv_iload_n hx hb dX7_image_13 rfl (lv_at hl 0 rfl) ?_
      refine lv_sipush (v := 520) hx hb dX7_image_14 (by decide) ?_
      refine lv_icmp_ge (tgt := 44) hx hb dX7_image_17 (by decide) (fun c3696 => ?_) (fun c3696 => ?_)
      · have c3696 := i_le (a := 520) (b := (k : Int)) c3696 (by decide) (nI_toInt (by omega))
        exfalso; omega
      · have c3696 := i_nle (a := 520) (b := (k : Int)) c3696 (by decide) (nI_toInt (by omega))
        refine lv_aload_n hx hb dX7_image_20 rfl (lv_at hl 1 rfl) ?_
        refine va_get (D := (dC, dI)) (ci := 7) (v := .ref (md 57)) (C := RX7) (T := TX7) (N := 59) hx hb hts hi7 hown hK hP 0 rfl rfl 57 (by decide) (hts _ (ow_m (k := 5) rfl)) (fun _ h9 => h9) rfl dX7_image_21 ?_
        refine lv_sipush (v := 520) hx hb dX7_image_24 (by decide) ?_
        refine lv_iload_n hx hb dX7_image_27 rfl (lv_at hl 2 rfl) ?_
        refine lv_imul hx hb dX7_image_28 ?_
        refine tp_c (w := 520) (by decide) ?_
        refine lv_iload_n hx hb dX7_image_29 rfl (lv_at hl 0 rfl) ?_
        refine lv_iadd hx hb dX7_image_30 ?_
        refine lv_topi (fun z3697 ez3697 => ?_)
        have tz3697 := ti_add (a := 520) (b := (k : Int)) ez3697 (by decide) (nI_toInt (by omega)) (by omega) (by omega)
        refine lv_aload_n hx hb dX7_image_31 rfl (lv_at hl 1 rfl) ?_
        refine va_get (D := (dC, dI)) (ci := 7) (v := .ref (md 40)) (C := RX7) (T := TX7) (N := 59) hx hb hts hi7 hown hK hP 0 rfl rfl 40 (by decide) (hts _ (ow_m (k := 4) rfl)) (fun _ h9 => h9) rfl dX7_image_32 ?_
        refine lv_iload_n hx hb dX7_image_35 rfl (lv_at hl 0 rfl) ?_
        refine va_iald hx hb hK hP 1 1 rfl rfl (vp_i (nI_toInt (by omega)) (by omega) (by omega)) dX7_image_36 ?_
        refine lv_topi (fun z3698 ez3698 => ?_)
        refine va_iast hx hb hK hP hD hS 2 1 rfl rfl (vp_i tz3697 (by omega) (by omega)) dX7_image_37 (fun H locs hP hD hS => ?_)
        have hP : va_P (dC, dI) vwCl [(h1, .inr (7, [.ref (md 0), .ref (md 1), .int 0, .int 0, .int 0, .int (-1), .int 0, .int 0, .int 0, .int 0, .long 0, .ref (md 11), .ref (md 12), .ref (md 13), .ref (md 14), .ref (md 15), .ref (md 16), .ref (md 17), .ref (md 18), .ref (md 19), .ref (md 20), .ref (md 21), .ref (md 22), .ref (md 23), .ref (md 24), .ref (md 25), .ref (md 26), .ref (md 27), .ref (md 28), .int 0, .int 0, .int 0, .int 0, .int 0, .int 0, .int 0, .int 0, .int 0, .int 0, .int 0, .ref (md 40), .ref (md 41), .int 0, .int 0, .ref (md 44), .int 0, .int 0, .ref (md 47), .ref (md 48), .int 0, .ref (md 50), .ref (md 51), .ref (md 52), .ref (md 53), .ref (md 54), .int 0, .int 0, .ref (md 57), .ref (md 58)])), (md 40, .inl (cyI, 520, .inl g)), (md 57, .inl (cyI, 1560, .inl (upd f3694 z3697.toNatClampNeg z3698))), (md 58, .inl (cyZ, 3, .inl (fun _ => 0)))] H := hP
        have hD : va_D A [(h1, .inr (7, [.ref (md 0), .ref (md 1), .int 0, .int 0, .int 0, .int (-1), .int 0, .int 0, .int 0, .int 0, .long 0, .ref (md 11), .ref (md 12), .ref (md 13), .ref (md 14), .ref (md 15), .ref (md 16), .ref (md 17), .ref (md 18), .ref (md 19), .ref (md 20), .ref (md 21), .ref (md 22), .ref (md 23), .ref (md 24), .ref (md 25), .ref (md 26), .ref (md 27), .ref (md 28), .int 0, .int 0, .int 0, .int 0, .int 0, .int 0, .int 0, .int 0, .int 0, .int 0, .int 0, .ref (md 40), .ref (md 41), .int 0, .int 0, .ref (md 44), .int 0, .int 0, .ref (md 47), .ref (md 48), .int 0, .ref (md 50), .ref (md 51), .ref (md 52), .ref (md 53), .ref (md 54), .int 0, .int 0, .ref (md 57), .ref (md 58)])), (md 40, .inl (cyI, 520, .inl g)), (md 57, .inl (cyI, 1560, .inl (upd f3694 z3697.toNatClampNeg z3698))), (md 58, .inl (cyZ, 3, .inl (fun _ => 0)))] := hD
        generalize upd f3694 z3697.toNatClampNeg z3698 = f3699 at hP hD
        refine lv_iinc (v := nI (k + 1)) (lv' := [(2, .int (nI (k + 1))), (0, .ref h1), (1, .int 1)]) hx hb dX7_image_38 hl (k := 0) rfl (nI_1 k) (by decide) rfl (fun ls hl => ?_)
        refine lv_goto (tgt := 13) hx hb dX7_image_41 (by decide) ?_
        have hl := lv_sub (l' := [(2, .int (nI (k + 1))), (0, .ref h1), (1, .int 1)]) hl [0, 1, 2] rfl
        apply ih (k := k + 1) (f3694 := f3699) <;> first | assumption | omega
  have c3688i := i_ne (b := 1) c3688 rfl (by decide)
  by_cases c3700 : x1 = 2
  · subst c3700
    have tc3700 : (2 : Int32).toInt = 2 := by decide
    have hl : lv_has ls 3 [(0, .ref h1), (1, .int 2)] := hl
    refine lv_iload_n hx hb dX7_image_0 rfl (lv_at hl 1 rfl) ?_
    refine lv_iconst (v := 0) hx hb dX7_image_1 (by decide) ?_
    refine lv_iconst (v := 2) hx hb dX7_image_2 (by decide) ?_
    refine gf_i (wr := [(h1, .inr (7, [.ref (md 0), .ref (md 1), .int 0, .int 0, .int 0, .int (-1), .int 0, .int 0, .int 0, .int 0, .long 0, .ref (md 11), .ref (md 12), .ref (md 13), .ref (md 14), .ref (md 15), .ref (md 16), .ref (md 17), .ref (md 18), .ref (md 19), .ref (md 20), .ref (md 21), .ref (md 22), .ref (md 23), .ref (md 24), .ref (md 25), .ref (md 26), .ref (md 27), .ref (md 28), .int 0, .int 0, .int 0, .int 0, .int 0, .int 0, .int 0, .int 0, .int 0, .int 0, .int 0, .ref (md 40), .ref (md 41), .int 0, .int 0, .ref (md 44), .int 0, .int 0, .ref (md 47), .ref (md 48), .int 0, .ref (md 50), .ref (md 51), .ref (md 52), .ref (md 53), .ref (md 54), .int 0, .int 0, .ref (md 57), .ref (md 58)])), (md 40, .inl (cyI, 520, .inl g)), (md 57, .inl (cyI, 1560, .inl (fun _ => 0))), (md 58, .inl (cyZ, 3, .inl (fun _ => 0)))]) (va_runS (As := [.int 2, .int 0, .int 2]) (rest := []) hfix (k_X7_isIn_v16 l dC dI cyB cyI cyJ cyZ cyO _) (va_cwS 3 hts (gi_S (ow_m (k := 0) rfl) (ow_m (k := 1) rfl) (ow_m (k := 2) rfl) (sb_c (sb_r (sb_r sb_l))) gd_k_X7_isIn_v16) rfl rfl rfl (by decide +kernel) ⟨Nat.le_of_ble_eq_true rfl, Nat.le_of_ble_eq_true rfl⟩) (g_preS hKN hP hD [] rfl (by decide)) rfl rfl hl.1 rfl (lv_room (Nat.le_of_ble_eq_true rfl)) dX7_image_3 ⟨Nat.le_of_ble_eq_true rfl, Nat.le_of_ble_eq_true rfl⟩) hP hD hS hA [] [0, 1, 2, 3] rfl rfl (by decide) (by decide) (fun r3703 u3704 H locs qu3704 hP hD hS => ?_)
    have hP : va_P (dC, dI) vwCl [(h1, .inr (7, [.ref (md 0), .ref (md 1), .int 0, .int 0, .int 0, .int (-1), .int 0, .int 0, .int 0, .int 0, .long 0, .ref (md 11), .ref (md 12), .ref (md 13), .ref (md 14), .ref (md 15), .ref (md 16), .ref (md 17), .ref (md 18), .ref (md 19), .ref (md 20), .ref (md 21), .ref (md 22), .ref (md 23), .ref (md 24), .ref (md 25), .ref (md 26), .ref (md 27), .ref (md 28), .int 0, .int 0, .int 0, .int 0, .int 0, .int 0, .int 0, .int 0, .int 0, .int 0, .int 0, .ref (md 40), .ref (md 41), .int 0, .int 0, .ref (md 44), .int 0, .int 0, .ref (md 47), .ref (md 48), .int 0, .ref (md 50), .ref (md 51), .ref (md 52), .ref (md 53), .ref (md 54), .int 0, .int 0, .ref (md 57), .ref (md 58)])), (md 40, .inl (cyI, 520, .inl g)), (md 57, .inl (cyI, 1560, .inl (fun _ => 0))), (md 58, .inl (cyZ, 3, .inl (fun _ => 0)))] H := hP
    have hD : va_D A [(h1, .inr (7, [.ref (md 0), .ref (md 1), .int 0, .int 0, .int 0, .int (-1), .int 0, .int 0, .int 0, .int 0, .long 0, .ref (md 11), .ref (md 12), .ref (md 13), .ref (md 14), .ref (md 15), .ref (md 16), .ref (md 17), .ref (md 18), .ref (md 19), .ref (md 20), .ref (md 21), .ref (md 22), .ref (md 23), .ref (md 24), .ref (md 25), .ref (md 26), .ref (md 27), .ref (md 28), .int 0, .int 0, .int 0, .int 0, .int 0, .int 0, .int 0, .int 0, .int 0, .int 0, .int 0, .ref (md 40), .ref (md 41), .int 0, .int 0, .ref (md 44), .int 0, .int 0, .ref (md 47), .ref (md 48), .int 0, .ref (md 50), .ref (md 51), .ref (md 52), .ref (md 53), .ref (md 54), .int 0, .int 0, .ref (md 57), .ref (md 58)])), (md 40, .inl (cyI, 520, .inl g)), (md 57, .inl (cyI, 1560, .inl (fun _ => 0))), (md 58, .inl (cyZ, 3, .inl (fun _ => 0)))] := hD
    refine tp_c (w := 1) qu3704 ?_
    refine lv_if_ne (tgt := 11) hx hb dX7_image_6 (by decide) (fun _ => ?_) (fun c3705 => absurd c3705 (by decide))
    refine lv_iconst (v := 0) hx hb dX7_image_11 (by decide) ?_
    refine lv_istore_n (lv' := [(2, .int 0), (0, .ref h1), (1, .int 2)]) hx hb dX7_image_12 rfl hl (by decide) rfl (fun ls hl => ?_)
    refine w_gen (fun H locs ls hP hS hl => ?_) hP hS hl
    obtain ⟨k, hk, hl2⟩ : ∃ k : Nat, k + 520 = 520 ∧ lv_has ls 3 [(2, .int (nI k)), (0, .ref h1), (1, .int 2)] := ⟨0, Nat.zero_add _, hl⟩
    obtain ⟨n, hkn⟩ : ∃ n : Nat, k + n = 520 := ⟨520, hk⟩
    obtain ⟨f3706, hP2, hD2⟩ : ∃ (f3706 : Nat → Int32), va_P (dC, dI) vwCl [(h1, .inr (7, [.ref (md 0), .ref (md 1), .int 0, .int 0, .int 0, .int (-1), .int 0, .int 0, .int 0, .int 0, .long 0, .ref (md 11), .ref (md 12), .ref (md 13), .ref (md 14), .ref (md 15), .ref (md 16), .ref (md 17), .ref (md 18), .ref (md 19), .ref (md 20), .ref (md 21), .ref (md 22), .ref (md 23), .ref (md 24), .ref (md 25), .ref (md 26), .ref (md 27), .ref (md 28), .int 0, .int 0, .int 0, .int 0, .int 0, .int 0, .int 0, .int 0, .int 0, .int 0, .int 0, .ref (md 40), .ref (md 41), .int 0, .int 0, .ref (md 44), .int 0, .int 0, .ref (md 47), .ref (md 48), .int 0, .ref (md 50), .ref (md 51), .ref (md 52), .ref (md 53), .ref (md 54), .int 0, .int 0, .ref (md 57), .ref (md 58)])), (md 40, .inl (cyI, 520, .inl g)), (md 57, .inl (cyI, 1560, .inl f3706)), (md 58, .inl (cyZ, 3, .inl (fun _ => 0)))] H ∧ va_D A [(h1, .inr (7, [.ref (md 0), .ref (md 1), .int 0, .int 0, .int 0, .int (-1), .int 0, .int 0, .int 0, .int 0, .long 0, .ref (md 11), .ref (md 12), .ref (md 13), .ref (md 14), .ref (md 15), .ref (md 16), .ref (md 17), .ref (md 18), .ref (md 19), .ref (md 20), .ref (md 21), .ref (md 22), .ref (md 23), .ref (md 24), .ref (md 25), .ref (md 26), .ref (md 27), .ref (md 28), .int 0, .int 0, .int 0, .int 0, .int 0, .int 0, .int 0, .int 0, .int 0, .int 0, .int 0, .ref (md 40), .ref (md 41), .int 0, .int 0, .ref (md 44), .int 0, .int 0, .ref (md 47), .ref (md 48), .int 0, .ref (md 50), .ref (md 51), .ref (md 52), .ref (md 53), .ref (md 54), .int 0, .int 0, .ref (md 57), .ref (md 58)])), (md 40, .inl (cyI, 520, .inl g)), (md 57, .inl (cyI, 1560, .inl f3706)), (md 58, .inl (cyZ, 3, .inl (fun _ => 0)))] := ⟨_, hP, hD⟩
    clear hk hP hl
    have hP := hP2
    have hD := hD2
    have hl := hl2
    clear hP2 hD2 hl2
    induction n generalizing k f3706 H locs ls with
    | zero =>
      obtain rfl : k = 520 := by omega
      refine lv_iload_n hx hb dX7_image_13 rfl (lv_at hl 0 rfl) ?_
      refine lv_sipush (v := 520) hx hb dX7_image_14 (by decide) ?_
      refine lv_icmp_ge (tgt := 44) hx hb dX7_image_17 (by decide) (fun _ => ?_) (fun c3707 => absurd (by decide) c3707)
      refine lv_aload_n hx hb dX7_image_44 rfl (lv_at hl 1 rfl) ?_
      refine va_get (D := (dC, dI)) (ci := 7) (v := .ref (md 58)) (C := RX7) (T := TX7) (N := 59) hx hb hts hi7 hown hK hP 0 rfl rfl 58 (by decide) (hts _ (ow_m (k := 3) rfl)) (fun _ h9 => h9) rfl dX7_image_45 ?_
      refine lv_iload_n hx hb dX7_image_48 rfl (lv_at hl 2 rfl) ?_
      refine lv_iconst (v := 1) hx hb dX7_image_49 (by decide) ?_
      refine va_zast hx hb hK hP hD hS 3 3 rfl rfl (vp_i (a := 2) (by decide) (by decide) (by decide)) dX7_image_50 (fun H locs hP hD hS => ?_)
      have hP : va_P (dC, dI) vwCl [(h1, .inr (7, [.ref (md 0), .ref (md 1), .int 0, .int 0, .int 0, .int (-1), .int 0, .int 0, .int 0, .int 0, .long 0, .ref (md 11), .ref (md 12), .ref (md 13), .ref (md 14), .ref (md 15), .ref (md 16), .ref (md 17), .ref (md 18), .ref (md 19), .ref (md 20), .ref (md 21), .ref (md 22), .ref (md 23), .ref (md 24), .ref (md 25), .ref (md 26), .ref (md 27), .ref (md 28), .int 0, .int 0, .int 0, .int 0, .int 0, .int 0, .int 0, .int 0, .int 0, .int 0, .int 0, .ref (md 40), .ref (md 41), .int 0, .int 0, .ref (md 44), .int 0, .int 0, .ref (md 47), .ref (md 48), .int 0, .ref (md 50), .ref (md 51), .ref (md 52), .ref (md 53), .ref (md 54), .int 0, .int 0, .ref (md 57), .ref (md 58)])), (md 40, .inl (cyI, 520, .inl g)), (md 57, .inl (cyI, 1560, .inl f3706)), (md 58, .inl (cyZ, 3, .inl (upd (fun _ => 0) 2 1)))] H := hP
      have hD : va_D A [(h1, .inr (7, [.ref (md 0), .ref (md 1), .int 0, .int 0, .int 0, .int (-1), .int 0, .int 0, .int 0, .int 0, .long 0, .ref (md 11), .ref (md 12), .ref (md 13), .ref (md 14), .ref (md 15), .ref (md 16), .ref (md 17), .ref (md 18), .ref (md 19), .ref (md 20), .ref (md 21), .ref (md 22), .ref (md 23), .ref (md 24), .ref (md 25), .ref (md 26), .ref (md 27), .ref (md 28), .int 0, .int 0, .int 0, .int 0, .int 0, .int 0, .int 0, .int 0, .int 0, .int 0, .int 0, .ref (md 40), .ref (md 41), .int 0, .int 0, .ref (md 44), .int 0, .int 0, .ref (md 47), .ref (md 48), .int 0, .ref (md 50), .ref (md 51), .ref (md 52), .ref (md 53), .ref (md 54), .int 0, .int 0, .ref (md 57), .ref (md 58)])), (md 40, .inl (cyI, 520, .inl g)), (md 57, .inl (cyI, 1560, .inl f3706)), (md 58, .inl (cyZ, 3, .inl (upd (fun _ => 0) 2 1)))] := hD
      refine lv_aload_n hx hb dX7_image_51 rfl (lv_at hl 1 rfl) ?_
      refine va_get (D := (dC, dI)) (ci := 7) (v := .ref (md 40)) (C := RX7) (T := TX7) (N := 59) hx hb hts hi7 hown hK hP 0 rfl rfl 40 (by decide) (hts _ (ow_m (k := 4) rfl)) (fun _ h9 => h9) rfl dX7_image_52 ?_
      refine lv_bipush (v := 108) hx hb dX7_image_55 (by decide) ?_
      refine va_iald hx hb hK hP 1 1 rfl rfl (vp_i (a := 108) (by decide) (by decide) (by decide)) dX7_image_57 ?_
      refine tp_c (w := 0) (hg 108 (by decide)) ?_
      exact W.iret (v := 0) hx hb hr (fun t ht hW => ⟨⟨0, (), rfl, (by first | decide | (unfold sp_image; (repeat' split) <;> first | rfl | omega)), cE.nil⟩, hS.F ht⟩) hS.2.2 dX7_image_58
    | succ n ih =>
      refine lv_iload_n hx hb dX7_image_13 rfl (lv_at hl 0 rfl) ?_
      refine lv_sipush (v := 520) hx hb dX7_image_14 (by decide) ?_
      refine lv_icmp_ge (tgt := 44) hx hb dX7_image_17 (by decide) (fun c3708 => ?_) (fun c3708 => ?_)
      · have c3708 := i_le (a := 520) (b := (k : Int)) c3708 (by decide) (nI_toInt (by omega))
        exfalso; omega
      · have c3708 := i_nle (a := 520) (b := (k : Int)) c3708 (by decide) (nI_toInt (by omega))
        refine lv_aload_n hx hb dX7_image_20 rfl (lv_at hl 1 rfl) ?_
        refine va_get (D := (dC, dI)) (ci := 7) (v := .ref (md 57)) (C := RX7) (T := TX7) (N := 59) hx hb hts hi7 hown hK hP 0 rfl rfl 57 (by decide) (hts _ (ow_m (k := 5) rfl)) (fun _ h9 => h9) rfl dX7_image_21 ?_
        refine lv_sipush (v := 520) hx hb dX7_image_24 (by decide) ?_
        refine lv_iload_n hx hb dX7_image_27 rfl (lv_at hl 2 rfl) ?_
        refine lv_imul hx hb dX7_image_28 ?_
        refine tp_c (w := 1040) (by decide) ?_
        refine lv_iload_n hx hb dX7_image_29 rfl (lv_at hl 0 rfl) ?_
        refine lv_iadd hx hb dX7_image_30 ?_
        refine lv_topi (fun z3709 ez3709 => ?_)
        have tz3709 := ti_add (a := 1040) (b := (k : Int)) ez3709 (by decide) (nI_toInt (by omega)) (by omega) (by omega)
        refine lv_aload_n hx hb dX7_image_31 rfl (lv_at hl 1 rfl) ?_
        refine va_get (D := (dC, dI)) (ci := 7) (v := .ref (md 40)) (C := RX7) (T := TX7) (N := 59) hx hb hts hi7 hown hK hP 0 rfl rfl 40 (by decide) (hts _ (ow_m (k := 4) rfl)) (fun _ h9 => h9) rfl dX7_image_32 ?_
        refine lv_iload_n hx hb dX7_image_35 rfl (lv_at hl 0 rfl) ?_
        refine va_iald hx hb hK hP 1 1 rfl rfl (vp_i (nI_toInt (by omega)) (by omega) (by omega)) dX7_image_36 ?_
        refine lv_topi (fun z3710 ez3710 => ?_)
        refine va_iast hx hb hK hP hD hS 2 1 rfl rfl (vp_i tz3709 (by omega) (by omega)) dX7_image_37 (fun H locs hP hD hS => ?_)
        have hP : va_P (dC, dI) vwCl [(h1, .inr (7, [.ref (md 0), .ref (md 1), .int 0, .int 0, .int 0, .int (-1), .int 0, .int 0, .int 0, .int 0, .long 0, .ref (md 11), .ref (md 12), .ref (md 13), .ref (md 14), .ref (md 15), .ref (md 16), .ref (md 17), .ref (md 18), .ref (md 19), .ref (md 20), .ref (md 21), .ref (md 22), .ref (md 23), .ref (md 24), .ref (md 25), .ref (md 26), .ref (md 27), .ref (md 28), .int 0, .int 0, .int 0, .int 0, .int 0, .int 0, .int 0, .int 0, .int 0, .int 0, .int 0, .ref (md 40), .ref (md 41), .int 0, .int 0, .ref (md 44), .int 0, .int 0, .ref (md 47), .ref (md 48), .int 0, .ref (md 50), .ref (md 51), .ref (md 52), .ref (md 53), .ref (md 54), .int 0, .int 0, .ref (md 57), .ref (md 58)])), (md 40, .inl (cyI, 520, .inl g)), (md 57, .inl (cyI, 1560, .inl (upd f3706 z3709.toNatClampNeg z3710))), (md 58, .inl (cyZ, 3, .inl (fun _ => 0)))] H := hP
        have hD : va_D A [(h1, .inr (7, [.ref (md 0), .ref (md 1), .int 0, .int 0, .int 0, .int (-1), .int 0, .int 0, .int 0, .int 0, .long 0, .ref (md 11), .ref (md 12), .ref (md 13), .ref (md 14), .ref (md 15), .ref (md 16), .ref (md 17), .ref (md 18), .ref (md 19), .ref (md 20), .ref (md 21), .ref (md 22), .ref (md 23), .ref (md 24), .ref (md 25), .ref (md 26), .ref (md 27), .ref (md 28), .int 0, .int 0, .int 0, .int 0, .int 0, .int 0, .int 0, .int 0, .int 0, .int 0, .int 0, .ref (md 40), .ref (md 41), .int 0, .int 0, .ref (md 44), .int 0, .int 0, .ref (md 47), .ref (md 48), .int 0, .ref (md 50), .ref (md 51), .ref (md 52), .ref (md 53), .ref (md 54), .int 0, .int 0, .ref (md 57), .ref (md 58)])), (md 40, .inl (cyI, 520, .inl g)), (md 57, .inl (cyI, 1560, .inl (upd f3706 z3709.toNatClampNeg z3710))), (md 58, .inl (cyZ, 3, .inl (fun _ => 0)))] := hD
        generalize upd f3706 z3709.toNatClampNeg z3710 = f3711 at hP hD
        refine lv_iinc (v := nI (k + 1)) (lv' := [(2, .int (nI (k + 1))), (0, .ref h1), (1, .int 2)]) hx hb dX7_image_38 hl (k := 0) rfl (nI_1 k) (by decide) rfl (fun ls hl => ?_)
        refine lv_goto (tgt := 13) hx hb dX7_image_41 (by decide) ?_
        have hl := lv_sub (l' := [(2, .int (nI (k + 1))), (0, .ref h1), (1, .int 2)]) hl [0, 1, 2] rfl
        apply ih (k := k + 1) (f3706 := f3711) <;> first | assumption | omega
  have c3700i := i_ne (b := 2) c3700 rfl (by decide)
  refine lv_iload_n hx hb dX7_image_0 rfl (lv_at hl 1 rfl) ?_
  refine lv_iconst (v := 0) hx hb dX7_image_1 (by decide) ?_
  refine lv_iconst (v := 2) hx hb dX7_image_2 (by decide) ?_
  refine gf_i (wr := [(h1, .inr (7, [.ref (md 0), .ref (md 1), .int 0, .int 0, .int 0, .int (-1), .int 0, .int 0, .int 0, .int 0, .long 0, .ref (md 11), .ref (md 12), .ref (md 13), .ref (md 14), .ref (md 15), .ref (md 16), .ref (md 17), .ref (md 18), .ref (md 19), .ref (md 20), .ref (md 21), .ref (md 22), .ref (md 23), .ref (md 24), .ref (md 25), .ref (md 26), .ref (md 27), .ref (md 28), .int 0, .int 0, .int 0, .int 0, .int 0, .int 0, .int 0, .int 0, .int 0, .int 0, .int 0, .ref (md 40), .ref (md 41), .int 0, .int 0, .ref (md 44), .int 0, .int 0, .ref (md 47), .ref (md 48), .int 0, .ref (md 50), .ref (md 51), .ref (md 52), .ref (md 53), .ref (md 54), .int 0, .int 0, .ref (md 57), .ref (md 58)])), (md 40, .inl (cyI, 520, .inl g)), (md 57, .inl (cyI, 1560, .inl (fun _ => 0))), (md 58, .inl (cyZ, 3, .inl (fun _ => 0)))]) (va_runS (As := [.int x1, .int 0, .int 2]) (rest := []) hfix (k_X7_isIn_v6 l dC dI cyB cyI cyJ cyZ cyO x1 _) (va_cwS 3 hts (gi_S (ow_m (k := 0) rfl) (ow_m (k := 1) rfl) (ow_m (k := 2) rfl) (sb_c (sb_r (sb_r (sb_r sb_l)))) gd_k_X7_isIn_v6) rfl rfl rfl (by decide +kernel) ⟨Nat.le_of_ble_eq_true rfl, Nat.le_of_ble_eq_true rfl⟩) (g_preS hKN hP hD [] rfl (by decide)) rfl rfl hl.1 rfl (lv_room (Nat.le_of_ble_eq_true rfl)) dX7_image_3 ⟨Nat.le_of_ble_eq_true rfl, Nat.le_of_ble_eq_true rfl⟩) hP hD hS hA [] [0, 1, 2, 3] rfl rfl (by decide) (by decide) (fun r3714 u3715 H locs qu3715 hP hD hS => ?_)
  have hP : va_P (dC, dI) vwCl [(h1, .inr (7, [.ref (md 0), .ref (md 1), .int 0, .int 0, .int 0, .int (-1), .int 0, .int 0, .int 0, .int 0, .long 0, .ref (md 11), .ref (md 12), .ref (md 13), .ref (md 14), .ref (md 15), .ref (md 16), .ref (md 17), .ref (md 18), .ref (md 19), .ref (md 20), .ref (md 21), .ref (md 22), .ref (md 23), .ref (md 24), .ref (md 25), .ref (md 26), .ref (md 27), .ref (md 28), .int 0, .int 0, .int 0, .int 0, .int 0, .int 0, .int 0, .int 0, .int 0, .int 0, .int 0, .ref (md 40), .ref (md 41), .int 0, .int 0, .ref (md 44), .int 0, .int 0, .ref (md 47), .ref (md 48), .int 0, .ref (md 50), .ref (md 51), .ref (md 52), .ref (md 53), .ref (md 54), .int 0, .int 0, .ref (md 57), .ref (md 58)])), (md 40, .inl (cyI, 520, .inl g)), (md 57, .inl (cyI, 1560, .inl (fun _ => 0))), (md 58, .inl (cyZ, 3, .inl (fun _ => 0)))] H := hP
  have hD : va_D A [(h1, .inr (7, [.ref (md 0), .ref (md 1), .int 0, .int 0, .int 0, .int (-1), .int 0, .int 0, .int 0, .int 0, .long 0, .ref (md 11), .ref (md 12), .ref (md 13), .ref (md 14), .ref (md 15), .ref (md 16), .ref (md 17), .ref (md 18), .ref (md 19), .ref (md 20), .ref (md 21), .ref (md 22), .ref (md 23), .ref (md 24), .ref (md 25), .ref (md 26), .ref (md 27), .ref (md 28), .int 0, .int 0, .int 0, .int 0, .int 0, .int 0, .int 0, .int 0, .int 0, .int 0, .int 0, .ref (md 40), .ref (md 41), .int 0, .int 0, .ref (md 44), .int 0, .int 0, .ref (md 47), .ref (md 48), .int 0, .ref (md 50), .ref (md 51), .ref (md 52), .ref (md 53), .ref (md 54), .int 0, .int 0, .ref (md 57), .ref (md 58)])), (md 40, .inl (cyI, 520, .inl g)), (md 57, .inl (cyI, 1560, .inl (fun _ => 0))), (md 58, .inl (cyZ, 3, .inl (fun _ => 0)))] := hD
  rcases qu3715 with ⟨rfl, b3716⟩ | ⟨rfl, b3717, b3718⟩ | ⟨rfl, b3719, b3720⟩
  · skip
    refine lv_if_ne (tgt := 11) hx hb dX7_image_6 (by decide) (fun c3721 => absurd (by decide) c3721) (fun _ => ?_)
    refine lv_iconst (v := (-1)) hx hb dX7_image_9 (by decide) ?_
    exact W.iret (v := (-1)) hx hb hr (fun t ht hW => ⟨⟨(-1), (), rfl, (by first | decide | (unfold sp_image; (repeat' split) <;> first | rfl | omega)), cE.nil⟩, hS.F ht⟩) hS.2.2 dX7_image_10
  · skip
    refine lv_if_ne (tgt := 11) hx hb dX7_image_6 (by decide) (fun c3722 => absurd (by decide) c3722) (fun _ => ?_)
    refine lv_iconst (v := (-1)) hx hb dX7_image_9 (by decide) ?_
    exact W.iret (v := (-1)) hx hb hr (fun t ht hW => ⟨⟨(-1), (), rfl, (by first | decide | (unfold sp_image; (repeat' split) <;> first | rfl | omega)), cE.nil⟩, hS.F ht⟩) hS.2.2 dX7_image_10
  · exfalso; omega
def wo_c_M_back : List Cond := [.methodLink RX7 316 yX7_isIn, .static yX7_isIn, .initialized RX7, .fieldLink RX7 109 "ReplicaChainModel" "isBoxed" "[Z"]
def wq_c_M_back : List Cond := .code yX7_back cX7_back 3 (some .int) :: (wo_c_M_back ++ (wq_k_X7_isIn_v6 ++ (wsX70 ++ [])))
theorem gd_c_M_back : Gd wq_c_M_back := gd_c (gd_a (gd_o (by decide +kernel)) (gd_a gd_k_X7_isIn_v6 (gd_a gd_u gd_0)))
abbrev wc_c_M_back (cyB cyI cyJ cyZ cyO : ClassId) (h1 : Nat) (md : Nat → Nat) (x1 : Int32) : va_W := [(h1, .inr (7, [.ref (md 0), .ref (md 1), .int 0, .int 0, .int 0, .int (-1), .int 0, .int 0, .int 0, .int 0, .long 0, .ref (md 11), .ref (md 12), .ref (md 13), .ref (md 14), .ref (md 15), .ref (md 16), .ref (md 17), .ref (md 18), .ref (md 19), .ref (md 20), .ref (md 21), .ref (md 22), .ref (md 23), .ref (md 24), .ref (md 25), .ref (md 26), .ref (md 27), .ref (md 28), .int 0, .int 0, .int 0, .int 0, .int 0, .int 0, .int 0, .int 0, .int 0, .int 0, .int 0, .ref (md 40), .ref (md 41), .int 0, .int 0, .ref (md 44), .int 0, .int 0, .ref (md 47), .ref (md 48), .int 0, .ref (md 50), .ref (md 51), .ref (md 52), .ref (md 53), .ref (md 54), .int 0, .int 0, .ref (md 57), .ref (md 58)])), (md 58, .inl (cyZ, 3, .inl (fun _ => 0)))]
set_option maxHeartbeats 4000000 in
set_option maxRecDepth 100000 in
theorem c_M_back (l : Launch) (dC : Nat → ClassId) (dI : Nat → Nat → Nat) (cyB cyI cyJ cyZ cyO : ClassId) (h1 : Nat) (md : Nat → Nat) (x1 : Int32) (sz : Nat) : Met l yX7_back wq_c_M_back ({ frames := 1, cells := 0, slots := 0, locals := 22 }) (va_Pc [.ref h1, .int x1] (cB (dC, dI) (kT cyB cyI cyJ cyZ cyO) (wc_c_M_back cyB cyI cyJ cyZ cyO h1 md x1) sz)) (va_Qi (fun (r : Int32) (_ : Unit) => r = -1) (fun (u : Unit) t => cE (dC, dI) (va_A (wc_c_M_back cyB cyI cyJ cyZ cyO h1 md x1) sz) ([]) t.heap) (va_A (wc_c_M_back cyB cyI cyJ cyZ cyO h1 md x1) sz)) 0 0 (va_A (wc_c_M_back cyB cyI cyJ cyZ cyO h1 md x1) sz) := by
  refine Met.ofW (cc := cX7_back) (maxL := 3) (ret := (some .int)) (by decide) rfl ?_
  intro p e s m args below meth c s₁ B hml hv
  obtain ⟨rfl, hsz, hP, hKN, hD0⟩ := hv
  have hx := B.exec
  have hb := B.bytes
  have hr := B.returns
  have hts := atoms_spec (ws := wq_c_M_back) B.pre
  have hown : s.vm.findClass RX7 = some m.cls := findClass_of_methodNamed B.named
  have hlocks := B.notSynchronized
  have hK := hKN.1
  have hfix : CallFix p m c cX7_back 3 s [.ref h1, .int x1].toArray wq_c_M_back RX7 := ⟨hx, hb, hml, hown, hts⟩
  have hi7 : ∀ w ∈ wsX70, w ∈ wq_c_M_back := (sb_c (sb_r sb_l))
  subst hsz
  have hD := hD0.self (sz := s.heap.size)
  generalize hAe : va_A (wc_c_M_back cyB cyI cyJ cyZ cyO h1 md x1) s.heap.size = A at hD ⊢
  have hA : ∀ q : Nat, s.heap.size ≤ q → A q := fun q h => by rw [← hAe]; exact Or.inr h
  have hS : va_S A s.heap s.heap [] := va_S.rf
  have hl := lv_entry ([.ref h1, .int x1]) (n := 3) (Nat.le_of_ble_eq_true rfl)
  rw [lg_entry_eq]
  generalize (lg_sl ([.ref h1, .int x1]) ++ List.replicate (3 - (lg_sl ([.ref h1, .int x1])).length) Slot.unset).toArray = ls at hl ⊢
  have hl : lv_has ls 3 [(0, .ref h1), (1, .int x1)] := hl
  refine lv_iload_n hx hb dX7_back_0 rfl (lv_at hl 1 rfl) ?_
  refine lv_iconst (v := 0) hx hb dX7_back_1 (by decide) ?_
  refine lv_iconst (v := 2) hx hb dX7_back_2 (by decide) ?_
  refine gf_i (wr := [(h1, .inr (7, [.ref (md 0), .ref (md 1), .int 0, .int 0, .int 0, .int (-1), .int 0, .int 0, .int 0, .int 0, .long 0, .ref (md 11), .ref (md 12), .ref (md 13), .ref (md 14), .ref (md 15), .ref (md 16), .ref (md 17), .ref (md 18), .ref (md 19), .ref (md 20), .ref (md 21), .ref (md 22), .ref (md 23), .ref (md 24), .ref (md 25), .ref (md 26), .ref (md 27), .ref (md 28), .int 0, .int 0, .int 0, .int 0, .int 0, .int 0, .int 0, .int 0, .int 0, .int 0, .int 0, .ref (md 40), .ref (md 41), .int 0, .int 0, .ref (md 44), .int 0, .int 0, .ref (md 47), .ref (md 48), .int 0, .ref (md 50), .ref (md 51), .ref (md 52), .ref (md 53), .ref (md 54), .int 0, .int 0, .ref (md 57), .ref (md 58)])), (md 58, .inl (cyZ, 3, .inl (fun _ => 0)))]) (va_runS (As := [.int x1, .int 0, .int 2]) (rest := []) hfix (k_X7_isIn_v6 l dC dI cyB cyI cyJ cyZ cyO x1 _) (va_cwS 3 hts (gi_S (ow_m (k := 0) rfl) (ow_m (k := 1) rfl) (ow_m (k := 2) rfl) (sb_c sb_l) gd_k_X7_isIn_v6) rfl rfl rfl (by decide +kernel) ⟨Nat.le_of_ble_eq_true rfl, Nat.le_of_ble_eq_true rfl⟩) (g_preS hKN hP hD [] rfl (by decide)) rfl rfl hl.1 rfl (lv_room (Nat.le_of_ble_eq_true rfl)) dX7_back_3 ⟨Nat.le_of_ble_eq_true rfl, Nat.le_of_ble_eq_true rfl⟩) hP hD hS hA [] [0, 1] rfl rfl (by decide) (by decide) (fun r3738 u3739 H locs qu3739 hP hD hS => ?_)
  have hP : va_P (dC, dI) vwCl [(h1, .inr (7, [.ref (md 0), .ref (md 1), .int 0, .int 0, .int 0, .int (-1), .int 0, .int 0, .int 0, .int 0, .long 0, .ref (md 11), .ref (md 12), .ref (md 13), .ref (md 14), .ref (md 15), .ref (md 16), .ref (md 17), .ref (md 18), .ref (md 19), .ref (md 20), .ref (md 21), .ref (md 22), .ref (md 23), .ref (md 24), .ref (md 25), .ref (md 26), .ref (md 27), .ref (md 28), .int 0, .int 0, .int 0, .int 0, .int 0, .int 0, .int 0, .int 0, .int 0, .int 0, .int 0, .ref (md 40), .ref (md 41), .int 0, .int 0, .ref (md 44), .int 0, .int 0, .ref (md 47), .ref (md 48), .int 0, .ref (md 50), .ref (md 51), .ref (md 52), .ref (md 53), .ref (md 54), .int 0, .int 0, .ref (md 57), .ref (md 58)])), (md 58, .inl (cyZ, 3, .inl (fun _ => 0)))] H := hP
  have hD : va_D A [(h1, .inr (7, [.ref (md 0), .ref (md 1), .int 0, .int 0, .int 0, .int (-1), .int 0, .int 0, .int 0, .int 0, .long 0, .ref (md 11), .ref (md 12), .ref (md 13), .ref (md 14), .ref (md 15), .ref (md 16), .ref (md 17), .ref (md 18), .ref (md 19), .ref (md 20), .ref (md 21), .ref (md 22), .ref (md 23), .ref (md 24), .ref (md 25), .ref (md 26), .ref (md 27), .ref (md 28), .int 0, .int 0, .int 0, .int 0, .int 0, .int 0, .int 0, .int 0, .int 0, .int 0, .int 0, .ref (md 40), .ref (md 41), .int 0, .int 0, .ref (md 44), .int 0, .int 0, .ref (md 47), .ref (md 48), .int 0, .ref (md 50), .ref (md 51), .ref (md 52), .ref (md 53), .ref (md 54), .int 0, .int 0, .ref (md 57), .ref (md 58)])), (md 58, .inl (cyZ, 3, .inl (fun _ => 0)))] := hD
  rcases qu3739 with ⟨rfl, b3740⟩ | ⟨rfl, b3741, b3742⟩ | ⟨rfl, b3743, b3744⟩
  · skip
    refine lv_if_eq (tgt := 18) hx hb dX7_back_6 (by decide) (fun _ => ?_) (fun c3745 => absurd (by decide) c3745)
    refine lv_iconst (v := (-1)) hx hb dX7_back_18 (by decide) ?_
    exact W.iret (v := (-1)) hx hb hr (fun t ht hW => ⟨⟨(-1), (), rfl, rfl, cE.nil⟩, hS.F ht⟩) hS.2.2 dX7_back_19
  · skip
    refine lv_if_eq (tgt := 18) hx hb dX7_back_6 (by decide) (fun _ => ?_) (fun c3746 => absurd (by decide) c3746)
    refine lv_iconst (v := (-1)) hx hb dX7_back_18 (by decide) ?_
    exact W.iret (v := (-1)) hx hb hr (fun t ht hW => ⟨⟨(-1), (), rfl, rfl, cE.nil⟩, hS.F ht⟩) hS.2.2 dX7_back_19
  · skip
    refine lv_if_eq (tgt := 18) hx hb dX7_back_6 (by decide) (fun c3747 => absurd c3747 (by decide)) (fun _ => ?_)
    refine lv_aload_n hx hb dX7_back_9 rfl (lv_at hl 0 rfl) ?_
    refine va_get (D := (dC, dI)) (ci := 7) (v := .ref (md 58)) (C := RX7) (T := TX7) (N := 59) hx hb hts hi7 hown hK hP 0 rfl rfl 58 (by decide) (hts _ (ow_m (k := 3) rfl)) (fun _ h9 => h9) rfl dX7_back_10 ?_
    refine lv_iload_n hx hb dX7_back_13 rfl (lv_at hl 1 rfl) ?_
    refine va_zald hx hb hK hP 1 3 rfl rfl (vp_i rfl (by omega) (by omega)) dX7_back_14 ?_
    refine tp_c (w := 0) (by rfl) ?_
    refine lv_if_ne (tgt := 20) hx hb dX7_back_15 (by decide) (fun c3748 => absurd (by decide) c3748) (fun _ => ?_)
    refine lv_iconst (v := (-1)) hx hb dX7_back_18 (by decide) ?_
    exact W.iret (v := (-1)) hx hb hr (fun t ht hW => ⟨⟨(-1), (), rfl, rfl, cE.nil⟩, hS.F ht⟩) hS.2.2 dX7_back_19
def wo_c_M_about : List Cond := [.methodLink RX7 313 yX7_lots, .instanceMethod yX7_lots, .selects RX7 yX7_lots yX7_lots, .initialized RX7, .fieldLink RX7 20 "ReplicaChainModel" "nodes" "[I", .fieldLink RX7 214 "ReplicaChainModel" "bank" "I", .fieldLink RX7 27 "ReplicaChainModel" "keys" "[I", .fieldLink RX7 76 "ReplicaChainModel" "all" "[I", .fieldLink RX7 329 "ReplicaChainModel" "acts" "I", .fieldLink RX7 332 "ReplicaChainModel" "undone" "I", .fieldLink RX7 335 "ReplicaChainModel" "seens" "I", .fieldLink RX7 486 "ReplicaChainModel" "time" "I", .fieldLink RX7 211 "ReplicaChainModel" "taped" "I", .fieldLink RX7 30 "ReplicaChainModel" "units" "[I", .fieldLink RX7 338 "ReplicaChainModel" "laid" "I", .fieldLink RX7 33 "ReplicaChainModel" "copy" "[I", .fieldLink RX7 36 "ReplicaChainModel" "loss" "[I"]
def wq_c_M_about : List Cond := .code yX7_about cX7_about 2 (some .int) :: (wo_c_M_about ++ (wq_k_X7_lots_v5 ++ (wsX70 ++ [])))
theorem gd_c_M_about : Gd wq_c_M_about := gd_c (gd_a (gd_o (by decide +kernel)) (gd_a gd_k_X7_lots_v5 (gd_a gd_u gd_0)))
abbrev wc_c_M_about (cyB cyI cyJ cyZ cyO : ClassId) (h1 : Nat) (md : Nat → Nat) (g : Nat → Int32) (x1 : Int32) : va_W := [(h1, .inr (7, [.ref (md 0), .ref (md 1), .int 0, .int 0, .int 0, .int (-1), .int 0, .int 0, .int 0, .int 0, .long 0, .ref (md 11), .ref (md 12), .ref (md 13), .ref (md 14), .ref (md 15), .ref (md 16), .ref (md 17), .ref (md 18), .ref (md 19), .ref (md 20), .ref (md 21), .ref (md 22), .ref (md 23), .ref (md 24), .ref (md 25), .ref (md 26), .ref (md 27), .ref (md 28), .int 0, .int 0, .int 0, .int 0, .int 0, .int 0, .int 0, .int 0, .int 0, .int 0, .int 0, .ref (md 40), .ref (md 41), .int 0, .int 0, .ref (md 44), .int 0, .int 0, .ref (md 47), .ref (md 48), .int 0, .ref (md 50), .ref (md 51), .ref (md 52), .ref (md 53), .ref (md 54), .int 0, .int 0, .ref (md 57), .ref (md 58)])), (md 11, .inl (cyI, 2, .inl (fun _ => 0))), (md 13, .inl (cyI, 2, .inl (fun _ => 0))), (md 14, .inl (cyI, 2, .inl (fun _ => 0))), (md 15, .inl (cyI, 2, .inl (upd (fun _ => 0) 0 2))), (md 16, .inl (cyI, 2, .inl (fun _ => 0))), (md 40, .inl (cyI, 520, .inl g))]
set_option maxHeartbeats 4000000 in
set_option maxRecDepth 100000 in
theorem c_M_about (l : Launch) (dC : Nat → ClassId) (dI : Nat → Nat → Nat) (cyB cyI cyJ cyZ cyO : ClassId) (h1 : Nat) (md : Nat → Nat) (g : Nat → Int32) (x1 : Int32) (sz : Nat) (hg : AllZ g) : Met l yX7_about wq_c_M_about ({ frames := 1, cells := 0, slots := 0, locals := 20 }) (va_Pc [.ref h1, .int x1] (cB (dC, dI) (kT cyB cyI cyJ cyZ cyO) (wc_c_M_about cyB cyI cyJ cyZ cyO h1 md g x1) sz)) (va_Qi (fun (r : Int32) (_ : Unit) => r = sp_about x1) (fun (u : Unit) t => cE (dC, dI) (va_A (wc_c_M_about cyB cyI cyJ cyZ cyO h1 md g x1) sz) ([]) t.heap) (va_A (wc_c_M_about cyB cyI cyJ cyZ cyO h1 md g x1) sz)) 0 0 (va_A (wc_c_M_about cyB cyI cyJ cyZ cyO h1 md g x1) sz) := by
  refine Met.ofW (cc := cX7_about) (maxL := 2) (ret := (some .int)) (by decide) rfl ?_
  intro p e s m args below meth c s₁ B hml hv
  obtain ⟨rfl, hsz, hP, hKN, hD0⟩ := hv
  have hx := B.exec
  have hb := B.bytes
  have hr := B.returns
  have hts := atoms_spec (ws := wq_c_M_about) B.pre
  have hown : s.vm.findClass RX7 = some m.cls := findClass_of_methodNamed B.named
  have hlocks := B.notSynchronized
  have hK := hKN.1
  have hfix : CallFix p m c cX7_about 2 s [.ref h1, .int x1].toArray wq_c_M_about RX7 := ⟨hx, hb, hml, hown, hts⟩
  have hi7 : ∀ w ∈ wsX70, w ∈ wq_c_M_about := (sb_c (sb_r sb_l))
  subst hsz
  have hD := hD0.self (sz := s.heap.size)
  generalize hAe : va_A (wc_c_M_about cyB cyI cyJ cyZ cyO h1 md g x1) s.heap.size = A at hD ⊢
  have hA : ∀ q : Nat, s.heap.size ≤ q → A q := fun q h => by rw [← hAe]; exact Or.inr h
  have hS : va_S A s.heap s.heap [] := va_S.rf
  have hl := lv_entry ([.ref h1, .int x1]) (n := 2) (Nat.le_of_ble_eq_true rfl)
  rw [lg_entry_eq]
  generalize (lg_sl ([.ref h1, .int x1]) ++ List.replicate (2 - (lg_sl ([.ref h1, .int x1])).length) Slot.unset).toArray = ls at hl ⊢
  have hl : lv_has ls 2 [(0, .ref h1), (1, .int x1)] := hl
  refine lv_iload_n hx hb dX7_about_0 rfl (lv_at hl 1 rfl) ?_
  by_cases c3772 : x1 = 0
  · have c3772i := i_eq (b := 0) c3772 rfl (by decide)
    refine lv_tableIn (tgt := 84) hx hb dX7_about_1 (by rw [c3772]; decide) (by rw [c3772]; decide) (by first | (rw [c3772]; done) | (rw [c3772]; rfl)) (by decide) ?_
    refine lv_aload_n hx hb dX7_about_84 rfl (lv_at hl 0 rfl) ?_
    refine gf_i (wr := [(md 11, .inl (cyI, 2, .inl (fun _ => 0))), (md 13, .inl (cyI, 2, .inl (fun _ => 0))), (md 14, .inl (cyI, 2, .inl (fun _ => 0))), (md 15, .inl (cyI, 2, .inl (upd (fun _ => 0) 0 2))), (md 16, .inl (cyI, 2, .inl (fun _ => 0)))]) (va_runV (As := []) (rest := []) hfix (k_X7_lots_v5 l dC dI cyB cyI cyJ cyZ cyO h1 md g _ hg) (cwV 0 hts (gi_V (ow_m (k := 0) rfl) (ow_m (k := 1) rfl) (ow_m (k := 2) rfl) (ow_m (k := 3) rfl) (sb_c sb_l) gd_k_X7_lots_v5) rfl rfl rfl (by decide +kernel) ⟨Nat.le_of_ble_eq_true rfl, Nat.le_of_ble_eq_true rfl⟩) (g_preV hKN hP hD [0, 6] rfl (by decide) 0 7 rfl rfl) rfl rfl hl.1 rfl (lv_room (Nat.le_of_ble_eq_true rfl)) dX7_about_85 ⟨Nat.le_of_ble_eq_true rfl, Nat.le_of_ble_eq_true rfl⟩) hP hD hS hA [0, 6] [1, 2, 3, 4, 5] rfl rfl (by decide) (by decide) (fun r3773 u3774 H locs qu3774 hP hD hS => ?_)
    have hP : va_P (dC, dI) vwCl [(md 11, .inl (cyI, 2, .inl (fun _ => 0))), (md 13, .inl (cyI, 2, .inl (fun _ => 0))), (md 14, .inl (cyI, 2, .inl (fun _ => 0))), (md 15, .inl (cyI, 2, .inl (upd (fun _ => 0) 0 2))), (md 16, .inl (cyI, 2, .inl (fun _ => 0))), (h1, .inr (7, [.ref (md 0), .ref (md 1), .int 0, .int 0, .int 0, .int (-1), .int 0, .int 0, .int 0, .int 0, .long 0, .ref (md 11), .ref (md 12), .ref (md 13), .ref (md 14), .ref (md 15), .ref (md 16), .ref (md 17), .ref (md 18), .ref (md 19), .ref (md 20), .ref (md 21), .ref (md 22), .ref (md 23), .ref (md 24), .ref (md 25), .ref (md 26), .ref (md 27), .ref (md 28), .int 0, .int 0, .int 0, .int 0, .int 0, .int 0, .int 0, .int 0, .int 0, .int 0, .int 0, .ref (md 40), .ref (md 41), .int 0, .int 0, .ref (md 44), .int 0, .int 0, .ref (md 47), .ref (md 48), .int 0, .ref (md 50), .ref (md 51), .ref (md 52), .ref (md 53), .ref (md 54), .int 0, .int 0, .ref (md 57), .ref (md 58)])), (md 40, .inl (cyI, 520, .inl g))] H := hP
    have hD : va_D A [(md 11, .inl (cyI, 2, .inl (fun _ => 0))), (md 13, .inl (cyI, 2, .inl (fun _ => 0))), (md 14, .inl (cyI, 2, .inl (fun _ => 0))), (md 15, .inl (cyI, 2, .inl (upd (fun _ => 0) 0 2))), (md 16, .inl (cyI, 2, .inl (fun _ => 0))), (h1, .inr (7, [.ref (md 0), .ref (md 1), .int 0, .int 0, .int 0, .int (-1), .int 0, .int 0, .int 0, .int 0, .long 0, .ref (md 11), .ref (md 12), .ref (md 13), .ref (md 14), .ref (md 15), .ref (md 16), .ref (md 17), .ref (md 18), .ref (md 19), .ref (md 20), .ref (md 21), .ref (md 22), .ref (md 23), .ref (md 24), .ref (md 25), .ref (md 26), .ref (md 27), .ref (md 28), .int 0, .int 0, .int 0, .int 0, .int 0, .int 0, .int 0, .int 0, .int 0, .int 0, .int 0, .ref (md 40), .ref (md 41), .int 0, .int 0, .ref (md 44), .int 0, .int 0, .ref (md 47), .ref (md 48), .int 0, .ref (md 50), .ref (md 51), .ref (md 52), .ref (md 53), .ref (md 54), .int 0, .int 0, .ref (md 57), .ref (md 58)])), (md 40, .inl (cyI, 520, .inl g))] := hD
    refine tp_c (w := 0) qu3774 ?_
    exact W.iret (v := 0) hx hb hr (fun t ht hW => ⟨⟨0, (), rfl, (by first | decide | (unfold sp_about; (repeat' split) <;> first | rfl | omega)), cE.nil⟩, hS.F ht⟩) hS.2.2 dX7_about_88
  have c3772i := i_ne (b := 0) c3772 rfl (by decide)
  by_cases c3775 : x1 = 1
  · have c3775i := i_eq (b := 1) c3775 rfl (by decide)
    refine lv_tableIn (tgt := 89) hx hb dX7_about_1 (by rw [c3775]; decide) (by rw [c3775]; decide) (by first | (rw [c3775]; done) | (rw [c3775]; rfl)) (by decide) ?_
    refine lv_aload_n hx hb dX7_about_89 rfl (lv_at hl 0 rfl) ?_
    refine va_get (D := (dC, dI)) (ci := 7) (v := .ref (md 11)) (C := RX7) (T := TX7) (N := 59) hx hb hts hi7 hown hK hP 0 rfl rfl 11 (by decide) (hts _ (ow_m (k := 4) rfl)) (fun _ h9 => h9) rfl dX7_about_90 ?_
    refine lv_aload_n hx hb dX7_about_93 rfl (lv_at hl 0 rfl) ?_
    refine va_get (D := (dC, dI)) (ci := 7) (v := .int 0) (C := RX7) (T := TX7) (N := 59) hx hb hts hi7 hown hK hP 0 rfl rfl 29 (by decide) (hts _ (ow_m (k := 5) rfl)) (fun _ h9 => h9) rfl dX7_about_94 ?_
    refine va_iald hx hb hK hP 1 1 rfl rfl (vp_i (a := 0) (by decide) (by decide) (by decide)) dX7_about_97 ?_
    refine tp_c (w := 0) (by rfl) ?_
    exact W.iret (v := 0) hx hb hr (fun t ht hW => ⟨⟨0, (), rfl, (by first | decide | (unfold sp_about; (repeat' split) <;> first | rfl | omega)), cE.nil⟩, hS.F ht⟩) hS.2.2 dX7_about_98
  have c3775i := i_ne (b := 1) c3775 rfl (by decide)
  by_cases c3776 : x1 = 2
  · have c3776i := i_eq (b := 2) c3776 rfl (by decide)
    refine lv_tableIn (tgt := 99) hx hb dX7_about_1 (by rw [c3776]; decide) (by rw [c3776]; decide) (by first | (rw [c3776]; done) | (rw [c3776]; rfl)) (by decide) ?_
    refine lv_aload_n hx hb dX7_about_99 rfl (lv_at hl 0 rfl) ?_
    refine va_get (D := (dC, dI)) (ci := 7) (v := .ref (md 13)) (C := RX7) (T := TX7) (N := 59) hx hb hts hi7 hown hK hP 0 rfl rfl 13 (by decide) (hts _ (ow_m (k := 6) rfl)) (fun _ h9 => h9) rfl dX7_about_100 ?_
    refine lv_aload_n hx hb dX7_about_103 rfl (lv_at hl 0 rfl) ?_
    refine va_get (D := (dC, dI)) (ci := 7) (v := .int 0) (C := RX7) (T := TX7) (N := 59) hx hb hts hi7 hown hK hP 0 rfl rfl 29 (by decide) (hts _ (ow_m (k := 5) rfl)) (fun _ h9 => h9) rfl dX7_about_104 ?_
    refine va_iald hx hb hK hP 2 1 rfl rfl (vp_i (a := 0) (by decide) (by decide) (by decide)) dX7_about_107 ?_
    refine tp_c (w := 0) (by rfl) ?_
    exact W.iret (v := 0) hx hb hr (fun t ht hW => ⟨⟨0, (), rfl, (by first | decide | (unfold sp_about; (repeat' split) <;> first | rfl | omega)), cE.nil⟩, hS.F ht⟩) hS.2.2 dX7_about_108
  have c3776i := i_ne (b := 2) c3776 rfl (by decide)
  by_cases c3777 : x1 = 3
  · have c3777i := i_eq (b := 3) c3777 rfl (by decide)
    refine lv_tableIn (tgt := 109) hx hb dX7_about_1 (by rw [c3777]; decide) (by rw [c3777]; decide) (by first | (rw [c3777]; done) | (rw [c3777]; rfl)) (by decide) ?_
    refine lv_aload_n hx hb dX7_about_109 rfl (lv_at hl 0 rfl) ?_
    refine gf_i (wr := [(md 11, .inl (cyI, 2, .inl (fun _ => 0))), (md 13, .inl (cyI, 2, .inl (fun _ => 0))), (md 14, .inl (cyI, 2, .inl (fun _ => 0))), (md 15, .inl (cyI, 2, .inl (upd (fun _ => 0) 0 2))), (md 16, .inl (cyI, 2, .inl (fun _ => 0)))]) (va_runV (As := []) (rest := []) hfix (k_X7_lots_v5 l dC dI cyB cyI cyJ cyZ cyO h1 md g _ hg) (cwV 0 hts (gi_V (ow_m (k := 0) rfl) (ow_m (k := 1) rfl) (ow_m (k := 2) rfl) (ow_m (k := 3) rfl) (sb_c sb_l) gd_k_X7_lots_v5) rfl rfl rfl (by decide +kernel) ⟨Nat.le_of_ble_eq_true rfl, Nat.le_of_ble_eq_true rfl⟩) (g_preV hKN hP hD [0, 6] rfl (by decide) 0 7 rfl rfl) rfl rfl hl.1 rfl (lv_room (Nat.le_of_ble_eq_true rfl)) dX7_about_110 ⟨Nat.le_of_ble_eq_true rfl, Nat.le_of_ble_eq_true rfl⟩) hP hD hS hA [0, 6] [1, 2, 3, 4, 5] rfl rfl (by decide) (by decide) (fun r3778 u3779 H locs qu3779 hP hD hS => ?_)
    have hP : va_P (dC, dI) vwCl [(md 11, .inl (cyI, 2, .inl (fun _ => 0))), (md 13, .inl (cyI, 2, .inl (fun _ => 0))), (md 14, .inl (cyI, 2, .inl (fun _ => 0))), (md 15, .inl (cyI, 2, .inl (upd (fun _ => 0) 0 2))), (md 16, .inl (cyI, 2, .inl (fun _ => 0))), (h1, .inr (7, [.ref (md 0), .ref (md 1), .int 0, .int 0, .int 0, .int (-1), .int 0, .int 0, .int 0, .int 0, .long 0, .ref (md 11), .ref (md 12), .ref (md 13), .ref (md 14), .ref (md 15), .ref (md 16), .ref (md 17), .ref (md 18), .ref (md 19), .ref (md 20), .ref (md 21), .ref (md 22), .ref (md 23), .ref (md 24), .ref (md 25), .ref (md 26), .ref (md 27), .ref (md 28), .int 0, .int 0, .int 0, .int 0, .int 0, .int 0, .int 0, .int 0, .int 0, .int 0, .int 0, .ref (md 40), .ref (md 41), .int 0, .int 0, .ref (md 44), .int 0, .int 0, .ref (md 47), .ref (md 48), .int 0, .ref (md 50), .ref (md 51), .ref (md 52), .ref (md 53), .ref (md 54), .int 0, .int 0, .ref (md 57), .ref (md 58)])), (md 40, .inl (cyI, 520, .inl g))] H := hP
    have hD : va_D A [(md 11, .inl (cyI, 2, .inl (fun _ => 0))), (md 13, .inl (cyI, 2, .inl (fun _ => 0))), (md 14, .inl (cyI, 2, .inl (fun _ => 0))), (md 15, .inl (cyI, 2, .inl (upd (fun _ => 0) 0 2))), (md 16, .inl (cyI, 2, .inl (fun _ => 0))), (h1, .inr (7, [.ref (md 0), .ref (md 1), .int 0, .int 0, .int 0, .int (-1), .int 0, .int 0, .int 0, .int 0, .long 0, .ref (md 11), .ref (md 12), .ref (md 13), .ref (md 14), .ref (md 15), .ref (md 16), .ref (md 17), .ref (md 18), .ref (md 19), .ref (md 20), .ref (md 21), .ref (md 22), .ref (md 23), .ref (md 24), .ref (md 25), .ref (md 26), .ref (md 27), .ref (md 28), .int 0, .int 0, .int 0, .int 0, .int 0, .int 0, .int 0, .int 0, .int 0, .int 0, .int 0, .ref (md 40), .ref (md 41), .int 0, .int 0, .ref (md 44), .int 0, .int 0, .ref (md 47), .ref (md 48), .int 0, .ref (md 50), .ref (md 51), .ref (md 52), .ref (md 53), .ref (md 54), .int 0, .int 0, .ref (md 57), .ref (md 58)])), (md 40, .inl (cyI, 520, .inl g))] := hD
    refine tp_c (w := 0) qu3779 ?_
    refine lv_if_ne (tgt := 120) hx hb dX7_about_113 (by decide) (fun c3780 => absurd (by decide) c3780) (fun _ => ?_)
    refine lv_iconst (v := 0) hx hb dX7_about_116 (by decide) ?_
    refine lv_goto (tgt := 125) hx hb dX7_about_117 (by decide) ?_
    exact W.iret (v := 0) hx hb hr (fun t ht hW => ⟨⟨0, (), rfl, (by first | decide | (unfold sp_about; (repeat' split) <;> first | rfl | omega)), cE.nil⟩, hS.F ht⟩) hS.2.2 dX7_about_125
  have c3777i := i_ne (b := 3) c3777 rfl (by decide)
  by_cases c3781 : x1 = 4
  · have c3781i := i_eq (b := 4) c3781 rfl (by decide)
    refine lv_tableIn (tgt := 126) hx hb dX7_about_1 (by rw [c3781]; decide) (by rw [c3781]; decide) (by first | (rw [c3781]; done) | (rw [c3781]; rfl)) (by decide) ?_
    refine lv_aload_n hx hb dX7_about_126 rfl (lv_at hl 0 rfl) ?_
    refine va_get (D := (dC, dI)) (ci := 7) (v := .ref (md 40)) (C := RX7) (T := TX7) (N := 59) hx hb hts hi7 hown hK hP 0 rfl rfl 40 (by decide) (hts _ (ow_m (k := 7) rfl)) (fun _ h9 => h9) rfl dX7_about_127 ?_
    refine lv_bipush (v := 107) hx hb dX7_about_130 (by decide) ?_
    refine va_iald hx hb hK hP 6 1 rfl rfl (vp_i (a := 107) (by decide) (by decide) (by decide)) dX7_about_132 ?_
    refine tp_c (w := 0) (hg 107 (by decide)) ?_
    exact W.iret (v := 0) hx hb hr (fun t ht hW => ⟨⟨0, (), rfl, (by first | decide | (unfold sp_about; (repeat' split) <;> first | rfl | omega)), cE.nil⟩, hS.F ht⟩) hS.2.2 dX7_about_133
  have c3781i := i_ne (b := 4) c3781 rfl (by decide)
  by_cases c3782 : x1 = 5
  · have c3782i := i_eq (b := 5) c3782 rfl (by decide)
    refine lv_tableIn (tgt := 134) hx hb dX7_about_1 (by rw [c3782]; decide) (by rw [c3782]; decide) (by first | (rw [c3782]; done) | (rw [c3782]; rfl)) (by decide) ?_
    refine lv_aload_n hx hb dX7_about_134 rfl (lv_at hl 0 rfl) ?_
    refine va_get (D := (dC, dI)) (ci := 7) (v := .ref (md 40)) (C := RX7) (T := TX7) (N := 59) hx hb hts hi7 hown hK hP 0 rfl rfl 40 (by decide) (hts _ (ow_m (k := 7) rfl)) (fun _ h9 => h9) rfl dX7_about_135 ?_
    refine lv_bipush (v := 105) hx hb dX7_about_138 (by decide) ?_
    refine va_iald hx hb hK hP 6 1 rfl rfl (vp_i (a := 105) (by decide) (by decide) (by decide)) dX7_about_140 ?_
    refine tp_c (w := (-1)) (hg 105 (by decide)) ?_
    refine lv_if_ge (tgt := 148) hx hb dX7_about_141 (by decide) (fun c3783 => absurd c3783 (by decide)) (fun _ => ?_)
    refine lv_iconst (v := 0) hx hb dX7_about_144 (by decide) ?_
    refine lv_goto (tgt := 155) hx hb dX7_about_145 (by decide) ?_
    exact W.iret (v := 0) hx hb hr (fun t ht hW => ⟨⟨0, (), rfl, (by first | decide | (unfold sp_about; (repeat' split) <;> first | rfl | omega)), cE.nil⟩, hS.F ht⟩) hS.2.2 dX7_about_155
  have c3782i := i_ne (b := 5) c3782 rfl (by decide)
  by_cases c3784 : x1 = 6
  · have c3784i := i_eq (b := 6) c3784 rfl (by decide)
    refine lv_tableIn (tgt := 156) hx hb dX7_about_1 (by rw [c3784]; decide) (by rw [c3784]; decide) (by first | (rw [c3784]; done) | (rw [c3784]; rfl)) (by decide) ?_
    refine lv_aload_n hx hb dX7_about_156 rfl (lv_at hl 0 rfl) ?_
    refine va_get (D := (dC, dI)) (ci := 7) (v := .ref (md 40)) (C := RX7) (T := TX7) (N := 59) hx hb hts hi7 hown hK hP 0 rfl rfl 40 (by decide) (hts _ (ow_m (k := 7) rfl)) (fun _ h9 => h9) rfl dX7_about_157 ?_
    refine lv_bipush (v := 108) hx hb dX7_about_160 (by decide) ?_
    refine va_iald hx hb hK hP 6 1 rfl rfl (vp_i (a := 108) (by decide) (by decide) (by decide)) dX7_about_162 ?_
    refine tp_c (w := 0) (hg 108 (by decide)) ?_
    exact W.iret (v := 0) hx hb hr (fun t ht hW => ⟨⟨0, (), rfl, (by first | decide | (unfold sp_about; (repeat' split) <;> first | rfl | omega)), cE.nil⟩, hS.F ht⟩) hS.2.2 dX7_about_163
  have c3784i := i_ne (b := 6) c3784 rfl (by decide)
  by_cases c3785 : x1 = 7
  · have c3785i := i_eq (b := 7) c3785 rfl (by decide)
    refine lv_tableIn (tgt := 164) hx hb dX7_about_1 (by rw [c3785]; decide) (by rw [c3785]; decide) (by first | (rw [c3785]; done) | (rw [c3785]; rfl)) (by decide) ?_
    refine lv_aload_n hx hb dX7_about_164 rfl (lv_at hl 0 rfl) ?_
    refine va_get (D := (dC, dI)) (ci := 7) (v := .ref (md 40)) (C := RX7) (T := TX7) (N := 59) hx hb hts hi7 hown hK hP 0 rfl rfl 40 (by decide) (hts _ (ow_m (k := 7) rfl)) (fun _ h9 => h9) rfl dX7_about_165 ?_
    refine lv_bipush (v := 109) hx hb dX7_about_168 (by decide) ?_
    refine va_iald hx hb hK hP 6 1 rfl rfl (vp_i (a := 109) (by decide) (by decide) (by decide)) dX7_about_170 ?_
    refine tp_c (w := 0) (hg 109 (by decide)) ?_
    exact W.iret (v := 0) hx hb hr (fun t ht hW => ⟨⟨0, (), rfl, (by first | decide | (unfold sp_about; (repeat' split) <;> first | rfl | omega)), cE.nil⟩, hS.F ht⟩) hS.2.2 dX7_about_171
  have c3785i := i_ne (b := 7) c3785 rfl (by decide)
  by_cases c3786 : x1 = 8
  · have c3786i := i_eq (b := 8) c3786 rfl (by decide)
    refine lv_tableIn (tgt := 172) hx hb dX7_about_1 (by rw [c3786]; decide) (by rw [c3786]; decide) (by first | (rw [c3786]; done) | (rw [c3786]; rfl)) (by decide) ?_
    refine lv_aload_n hx hb dX7_about_172 rfl (lv_at hl 0 rfl) ?_
    refine va_get (D := (dC, dI)) (ci := 7) (v := .int 0) (C := RX7) (T := TX7) (N := 59) hx hb hts hi7 hown hK hP 0 rfl rfl 45 (by decide) (hts _ (ow_m (k := 8) rfl)) (fun _ h9 => h9) rfl dX7_about_173 ?_
    exact W.iret (v := 0) hx hb hr (fun t ht hW => ⟨⟨0, (), rfl, (by first | decide | (unfold sp_about; (repeat' split) <;> first | rfl | omega)), cE.nil⟩, hS.F ht⟩) hS.2.2 dX7_about_176
  have c3786i := i_ne (b := 8) c3786 rfl (by decide)
  by_cases c3787 : x1 = 9
  · have c3787i := i_eq (b := 9) c3787 rfl (by decide)
    refine lv_tableIn (tgt := 177) hx hb dX7_about_1 (by rw [c3787]; decide) (by rw [c3787]; decide) (by first | (rw [c3787]; done) | (rw [c3787]; rfl)) (by decide) ?_
    refine lv_aload_n hx hb dX7_about_177 rfl (lv_at hl 0 rfl) ?_
    refine va_get (D := (dC, dI)) (ci := 7) (v := .int 0) (C := RX7) (T := TX7) (N := 59) hx hb hts hi7 hown hK hP 0 rfl rfl 46 (by decide) (hts _ (ow_m (k := 9) rfl)) (fun _ h9 => h9) rfl dX7_about_178 ?_
    exact W.iret (v := 0) hx hb hr (fun t ht hW => ⟨⟨0, (), rfl, (by first | decide | (unfold sp_about; (repeat' split) <;> first | rfl | omega)), cE.nil⟩, hS.F ht⟩) hS.2.2 dX7_about_181
  have c3787i := i_ne (b := 9) c3787 rfl (by decide)
  by_cases c3788 : x1 = 10
  · have c3788i := i_eq (b := 10) c3788 rfl (by decide)
    refine lv_tableIn (tgt := 182) hx hb dX7_about_1 (by rw [c3788]; decide) (by rw [c3788]; decide) (by first | (rw [c3788]; done) | (rw [c3788]; rfl)) (by decide) ?_
    refine lv_aload_n hx hb dX7_about_182 rfl (lv_at hl 0 rfl) ?_
    refine va_get (D := (dC, dI)) (ci := 7) (v := .int 0) (C := RX7) (T := TX7) (N := 59) hx hb hts hi7 hown hK hP 0 rfl rfl 55 (by decide) (hts _ (ow_m (k := 10) rfl)) (fun _ h9 => h9) rfl dX7_about_183 ?_
    exact W.iret (v := 0) hx hb hr (fun t ht hW => ⟨⟨0, (), rfl, (by first | decide | (unfold sp_about; (repeat' split) <;> first | rfl | omega)), cE.nil⟩, hS.F ht⟩) hS.2.2 dX7_about_186
  have c3788i := i_ne (b := 10) c3788 rfl (by decide)
  by_cases c3789 : x1 = 11
  · have c3789i := i_eq (b := 11) c3789 rfl (by decide)
    refine lv_tableIn (tgt := 187) hx hb dX7_about_1 (by rw [c3789]; decide) (by rw [c3789]; decide) (by first | (rw [c3789]; done) | (rw [c3789]; rfl)) (by decide) ?_
    refine lv_aload_n hx hb dX7_about_187 rfl (lv_at hl 0 rfl) ?_
    refine va_get (D := (dC, dI)) (ci := 7) (v := .int 0) (C := RX7) (T := TX7) (N := 59) hx hb hts hi7 hown hK hP 0 rfl rfl 56 (by decide) (hts _ (ow_m (k := 11) rfl)) (fun _ h9 => h9) rfl dX7_about_188 ?_
    exact W.iret (v := 0) hx hb hr (fun t ht hW => ⟨⟨0, (), rfl, (by first | decide | (unfold sp_about; (repeat' split) <;> first | rfl | omega)), cE.nil⟩, hS.F ht⟩) hS.2.2 dX7_about_191
  have c3789i := i_ne (b := 11) c3789 rfl (by decide)
  by_cases c3790 : x1 = 12
  · have c3790i := i_eq (b := 12) c3790 rfl (by decide)
    refine lv_tableIn (tgt := 192) hx hb dX7_about_1 (by rw [c3790]; decide) (by rw [c3790]; decide) (by first | (rw [c3790]; done) | (rw [c3790]; rfl)) (by decide) ?_
    refine lv_aload_n hx hb dX7_about_192 rfl (lv_at hl 0 rfl) ?_
    refine va_get (D := (dC, dI)) (ci := 7) (v := .int 0) (C := RX7) (T := TX7) (N := 59) hx hb hts hi7 hown hK hP 0 rfl rfl 2 (by decide) (hts _ (ow_m (k := 12) rfl)) (fun _ h9 => h9) rfl dX7_about_193 ?_
    exact W.iret (v := 0) hx hb hr (fun t ht hW => ⟨⟨0, (), rfl, (by first | decide | (unfold sp_about; (repeat' split) <;> first | rfl | omega)), cE.nil⟩, hS.F ht⟩) hS.2.2 dX7_about_196
  have c3790i := i_ne (b := 12) c3790 rfl (by decide)
  by_cases c3791 : x1 = 13
  · have c3791i := i_eq (b := 13) c3791 rfl (by decide)
    refine lv_tableIn (tgt := 197) hx hb dX7_about_1 (by rw [c3791]; decide) (by rw [c3791]; decide) (by first | (rw [c3791]; done) | (rw [c3791]; rfl)) (by decide) ?_
    refine lv_aload_n hx hb dX7_about_197 rfl (lv_at hl 0 rfl) ?_
    refine va_get (D := (dC, dI)) (ci := 7) (v := .ref (md 14)) (C := RX7) (T := TX7) (N := 59) hx hb hts hi7 hown hK hP 0 rfl rfl 14 (by decide) (hts _ (ow_m (k := 13) rfl)) (fun _ h9 => h9) rfl dX7_about_198 ?_
    refine lv_aload_n hx hb dX7_about_201 rfl (lv_at hl 0 rfl) ?_
    refine va_get (D := (dC, dI)) (ci := 7) (v := .int 0) (C := RX7) (T := TX7) (N := 59) hx hb hts hi7 hown hK hP 0 rfl rfl 29 (by decide) (hts _ (ow_m (k := 5) rfl)) (fun _ h9 => h9) rfl dX7_about_202 ?_
    refine va_iald hx hb hK hP 3 1 rfl rfl (vp_i (a := 0) (by decide) (by decide) (by decide)) dX7_about_205 ?_
    refine tp_c (w := 0) (by rfl) ?_
    exact W.iret (v := 0) hx hb hr (fun t ht hW => ⟨⟨0, (), rfl, (by first | decide | (unfold sp_about; (repeat' split) <;> first | rfl | omega)), cE.nil⟩, hS.F ht⟩) hS.2.2 dX7_about_206
  have c3791i := i_ne (b := 13) c3791 rfl (by decide)
  by_cases c3792 : x1 = 14
  · have c3792i := i_eq (b := 14) c3792 rfl (by decide)
    refine lv_tableIn (tgt := 207) hx hb dX7_about_1 (by rw [c3792]; decide) (by rw [c3792]; decide) (by first | (rw [c3792]; done) | (rw [c3792]; rfl)) (by decide) ?_
    refine lv_aload_n hx hb dX7_about_207 rfl (lv_at hl 0 rfl) ?_
    refine va_get (D := (dC, dI)) (ci := 7) (v := .int 0) (C := RX7) (T := TX7) (N := 59) hx hb hts hi7 hown hK hP 0 rfl rfl 49 (by decide) (hts _ (ow_m (k := 14) rfl)) (fun _ h9 => h9) rfl dX7_about_208 ?_
    exact W.iret (v := 0) hx hb hr (fun t ht hW => ⟨⟨0, (), rfl, (by first | decide | (unfold sp_about; (repeat' split) <;> first | rfl | omega)), cE.nil⟩, hS.F ht⟩) hS.2.2 dX7_about_211
  have c3792i := i_ne (b := 14) c3792 rfl (by decide)
  by_cases c3793 : x1 = 15
  · have c3793i := i_eq (b := 15) c3793 rfl (by decide)
    refine lv_tableIn (tgt := 212) hx hb dX7_about_1 (by rw [c3793]; decide) (by rw [c3793]; decide) (by first | (rw [c3793]; done) | (rw [c3793]; rfl)) (by decide) ?_
    refine lv_aload_n hx hb dX7_about_212 rfl (lv_at hl 0 rfl) ?_
    refine va_get (D := (dC, dI)) (ci := 7) (v := .ref (md 15)) (C := RX7) (T := TX7) (N := 59) hx hb hts hi7 hown hK hP 0 rfl rfl 15 (by decide) (hts _ (ow_m (k := 15) rfl)) (fun _ h9 => h9) rfl dX7_about_213 ?_
    refine lv_aload_n hx hb dX7_about_216 rfl (lv_at hl 0 rfl) ?_
    refine va_get (D := (dC, dI)) (ci := 7) (v := .int 0) (C := RX7) (T := TX7) (N := 59) hx hb hts hi7 hown hK hP 0 rfl rfl 29 (by decide) (hts _ (ow_m (k := 5) rfl)) (fun _ h9 => h9) rfl dX7_about_217 ?_
    refine va_iald hx hb hK hP 4 1 rfl rfl (vp_i (a := 0) (by decide) (by decide) (by decide)) dX7_about_220 ?_
    refine tp_c (w := 2) (by rfl) ?_
    exact W.iret (v := 2) hx hb hr (fun t ht hW => ⟨⟨2, (), rfl, (by first | decide | (unfold sp_about; (repeat' split) <;> first | rfl | omega)), cE.nil⟩, hS.F ht⟩) hS.2.2 dX7_about_221
  have c3793i := i_ne (b := 15) c3793 rfl (by decide)
  by_cases c3794 : x1 = 16
  · have c3794i := i_eq (b := 16) c3794 rfl (by decide)
    refine lv_tableIn (tgt := 222) hx hb dX7_about_1 (by rw [c3794]; decide) (by rw [c3794]; decide) (by first | (rw [c3794]; done) | (rw [c3794]; rfl)) (by decide) ?_
    refine lv_aload_n hx hb dX7_about_222 rfl (lv_at hl 0 rfl) ?_
    refine va_get (D := (dC, dI)) (ci := 7) (v := .ref (md 16)) (C := RX7) (T := TX7) (N := 59) hx hb hts hi7 hown hK hP 0 rfl rfl 16 (by decide) (hts _ (ow_m (k := 16) rfl)) (fun _ h9 => h9) rfl dX7_about_223 ?_
    refine lv_aload_n hx hb dX7_about_226 rfl (lv_at hl 0 rfl) ?_
    refine va_get (D := (dC, dI)) (ci := 7) (v := .int 0) (C := RX7) (T := TX7) (N := 59) hx hb hts hi7 hown hK hP 0 rfl rfl 29 (by decide) (hts _ (ow_m (k := 5) rfl)) (fun _ h9 => h9) rfl dX7_about_227 ?_
    refine va_iald hx hb hK hP 5 1 rfl rfl (vp_i (a := 0) (by decide) (by decide) (by decide)) dX7_about_230 ?_
    refine tp_c (w := 0) (by rfl) ?_
    exact W.iret (v := 0) hx hb hr (fun t ht hW => ⟨⟨0, (), rfl, (by first | decide | (unfold sp_about; (repeat' split) <;> first | rfl | omega)), cE.nil⟩, hS.F ht⟩) hS.2.2 dX7_about_231
  have c3794i := i_ne (b := 16) c3794 rfl (by decide)
  refine lv_tableOut (tgt := 232) hx hb dX7_about_1 (by omega) (by decide) ?_
  refine lv_iconst (v := (-1)) hx hb dX7_about_232 (by decide) ?_
  exact W.iret (v := (-1)) hx hb hr (fun t ht hW => ⟨⟨(-1), (), rfl, (by first | decide | (unfold sp_about; (repeat' split) <;> first | rfl | omega)), cE.nil⟩, hS.F ht⟩) hS.2.2 dX7_about_233
def wo_k_X0_init : List Cond := [.methodLink RX0 3 objectInit, .instanceMethod objectInit, .code objectInit ⟨#[0xb1]⟩ 1 none, .arrayClass .int, .fieldLink RX0 11 "ReplicaChain$Formula" "steps" "[I", .fieldLink RX0 15 "ReplicaChain$Formula" "stack" "[I", .fieldLink RX0 18 "ReplicaChain$Formula" "facts" "[I"]
def wq_k_X0_init : List Cond := .code yX0_init cX0_init 1 none :: (wo_k_X0_init ++ (wsX00 ++ []))
theorem gd_k_X0_init : Gd wq_k_X0_init := gd_c (gd_a (gd_o (by decide +kernel)) (gd_a gd_u gd_0))
abbrev wc_k_X0_init (cyB cyI cyJ cyZ cyO : ClassId) (q3800 : Nat) : va_W := [(q3800, .inr (0, [.null, .null, .null, .int 0]))]
set_option maxHeartbeats 4000000 in
set_option maxRecDepth 100000 in
theorem k_X0_init (l : Launch) (dC : Nat → ClassId) (dI : Nat → Nat → Nat) (cyB cyI cyJ cyZ cyO : ClassId) (q3800 : Nat) (sz : Nat) : Met l yX0_init wq_k_X0_init ({ frames := 1, cells := 3, slots := 307, locals := 20 }) (va_Pc [.ref q3800] (cB (dC, dI) (kT cyB cyI cyJ cyZ cyO) (wc_k_X0_init cyB cyI cyJ cyZ cyO q3800) sz)) (va_Qv (fun _ => True) (fun (u : Nat → Nat) t => cE (dC, dI) (va_A (wc_k_X0_init cyB cyI cyJ cyZ cyO q3800) sz) ([(q3800, .inr (0, [.ref (u 0), .ref (u 1), .ref (u 2), .int 0])), (u 0, .inl (cyI, 270, .inl (fun _ => 0))), (u 1, .inl (cyI, 31, .inl (fun _ => 0))), (u 2, .inl (cyI, 6, .inl (fun _ => 0)))]) t.heap) (va_A (wc_k_X0_init cyB cyI cyJ cyZ cyO q3800) sz)) 3 307 (va_A (wc_k_X0_init cyB cyI cyJ cyZ cyO q3800) sz) := by
  refine Met.ofW (cc := cX0_init) (maxL := 1) (ret := none) (by decide) rfl ?_
  intro p e s m args below meth c s₁ B hml hv
  obtain ⟨rfl, hsz, hP, hKN, hD0⟩ := hv
  have hx := B.exec
  have hb := B.bytes
  have hr := B.returns
  have hts := atoms_spec (ws := wq_k_X0_init) B.pre
  have hown : s.vm.findClass RX0 = some m.cls := findClass_of_methodNamed B.named
  have hlocks := B.notSynchronized
  have hin : meth.name = "<init>" := (name_of_methodNamed B.named B.method).1
  have hK := hKN.1
  have hfix : CallFix p m c cX0_init 1 s [.ref q3800].toArray wq_k_X0_init RX0 := ⟨hx, hb, hml, hown, hts⟩
  have hi0 : ∀ w ∈ wsX00, w ∈ wq_k_X0_init := (sb_c sb_l)
  subst hsz
  have hD := hD0.self (sz := s.heap.size)
  generalize hAe : va_A (wc_k_X0_init cyB cyI cyJ cyZ cyO q3800) s.heap.size = A at hD ⊢
  have hA : ∀ q : Nat, s.heap.size ≤ q → A q := fun q h => by rw [← hAe]; exact Or.inr h
  have hS : va_S A s.heap s.heap [] := va_S.rf
  have hl := lv_entry ([.ref q3800]) (n := 1) (Nat.le_of_ble_eq_true rfl)
  rw [lg_entry_eq]
  generalize (lg_sl ([.ref q3800]) ++ List.replicate (1 - (lg_sl ([.ref q3800])).length) Slot.unset).toArray = ls at hl ⊢
  have hl : lv_has ls 1 [(0, .ref q3800)] := hl
  refine lv_aload_n hx hb dX0_init_0 rfl (lv_at hl 0 rfl) ?_
  refine W.objInit hx hb hown (hts _ (ow_m (k := 0) rfl)) (hts _ (ow_m (k := 1) rfl)) (hts _ (ow_m (k := 2) rfl)) rfl (by rw [hml]; exact hl.1) rfl dX0_init_1 (Nat.le_of_ble_eq_true rfl) (Nat.le_of_ble_eq_true rfl) ?_
  refine W.eq (g2 := F0 m 4 ls []) rfl ?_
  refine lv_aload_n hx hb dX0_init_4 rfl (lv_at hl 0 rfl) ?_
  refine lv_sipush (v := 270) hx hb dX0_init_5 (by decide) ?_
  refine g_newa (a0 := (270, .inl (fun _ => 0))) hx hb (hts _ (ow_m (k := 3) rfl)) rfl hKN hP hD hS hA 1 rfl rfl (fun _ => rfl) (by decide) (by decide) (by decide) (Nat.le_of_ble_eq_true rfl) (Nat.le_of_ble_eq_true rfl) dX0_init_8 (fun q3804 H hP hD hS => ?_)
  have hP : va_P (dC, dI) vwCl [(q3800, .inr (0, [.null, .null, .null, .int 0])), (q3804, .inl (cyI, 270, .inl (fun _ => 0)))] H := hP
  have hD : va_D A [(q3800, .inr (0, [.null, .null, .null, .int 0])), (q3804, .inl (cyI, 270, .inl (fun _ => 0)))] := hD
  refine W.widen (k := 1) (n := 270) (by omega) (by omega) ?_
  refine va_putF (D := (dC, dI)) (ci := 0) (v := .ref q3804) (ty := .array .int) (C := RX0) (T := TX0) (N := 4) hx hb hts hi0 tyX0 tyX0_ok nmX0 hown hK hP hD hS 0 rfl rfl 0 (by decide) (hts _ (ow_m (k := 4) rfl)) (fun _ h9 => h9) rfl hin rfl (by decide +kernel) rfl rfl (Nat.le_of_ble_eq_true rfl) dX0_init_10 (fun H locs hP hD hS => ?_)
  have hP : va_P (dC, dI) vwCl [(q3800, .inr (0, [.ref q3804, .null, .null, .int 0])), (q3804, .inl (cyI, 270, .inl (fun _ => 0)))] H := hP
  have hD : va_D A [(q3800, .inr (0, [.ref q3804, .null, .null, .int 0])), (q3804, .inl (cyI, 270, .inl (fun _ => 0)))] := hD
  refine lv_aload_n hx hb dX0_init_13 rfl (lv_at hl 0 rfl) ?_
  refine lv_bipush (v := 31) hx hb dX0_init_14 (by decide) ?_
  refine g_newa (a0 := (31, .inl (fun _ => 0))) hx hb (hts _ (ow_m (k := 3) rfl)) rfl hKN hP hD hS hA 1 rfl rfl (fun _ => rfl) (by decide) (by decide) (by decide) (Nat.le_of_ble_eq_true rfl) (Nat.le_of_ble_eq_true rfl) dX0_init_16 (fun q3805 H hP hD hS => ?_)
  have hP : va_P (dC, dI) vwCl [(q3800, .inr (0, [.ref q3804, .null, .null, .int 0])), (q3804, .inl (cyI, 270, .inl (fun _ => 0))), (q3805, .inl (cyI, 31, .inl (fun _ => 0)))] H := hP
  have hD : va_D A [(q3800, .inr (0, [.ref q3804, .null, .null, .int 0])), (q3804, .inl (cyI, 270, .inl (fun _ => 0))), (q3805, .inl (cyI, 31, .inl (fun _ => 0)))] := hD
  refine W.widen (k := 2) (n := 301) (by omega) (by omega) ?_
  refine va_putF (D := (dC, dI)) (ci := 0) (v := .ref q3805) (ty := .array .int) (C := RX0) (T := TX0) (N := 4) hx hb hts hi0 tyX0 tyX0_ok nmX0 hown hK hP hD hS 0 rfl rfl 1 (by decide) (hts _ (ow_m (k := 5) rfl)) (fun _ h9 => h9) rfl hin rfl (by decide +kernel) rfl rfl (Nat.le_of_ble_eq_true rfl) dX0_init_18 (fun H locs hP hD hS => ?_)
  have hP : va_P (dC, dI) vwCl [(q3800, .inr (0, [.ref q3804, .ref q3805, .null, .int 0])), (q3804, .inl (cyI, 270, .inl (fun _ => 0))), (q3805, .inl (cyI, 31, .inl (fun _ => 0)))] H := hP
  have hD : va_D A [(q3800, .inr (0, [.ref q3804, .ref q3805, .null, .int 0])), (q3804, .inl (cyI, 270, .inl (fun _ => 0))), (q3805, .inl (cyI, 31, .inl (fun _ => 0)))] := hD
  refine lv_aload_n hx hb dX0_init_21 rfl (lv_at hl 0 rfl) ?_
  refine lv_bipush (v := 6) hx hb dX0_init_22 (by decide) ?_
  refine g_newa (a0 := (6, .inl (fun _ => 0))) hx hb (hts _ (ow_m (k := 3) rfl)) rfl hKN hP hD hS hA 1 rfl rfl (fun _ => rfl) (by decide) (by decide) (by decide) (Nat.le_of_ble_eq_true rfl) (Nat.le_of_ble_eq_true rfl) dX0_init_24 (fun q3806 H hP hD hS => ?_)
  have hP : va_P (dC, dI) vwCl [(q3800, .inr (0, [.ref q3804, .ref q3805, .null, .int 0])), (q3804, .inl (cyI, 270, .inl (fun _ => 0))), (q3805, .inl (cyI, 31, .inl (fun _ => 0))), (q3806, .inl (cyI, 6, .inl (fun _ => 0)))] H := hP
  have hD : va_D A [(q3800, .inr (0, [.ref q3804, .ref q3805, .null, .int 0])), (q3804, .inl (cyI, 270, .inl (fun _ => 0))), (q3805, .inl (cyI, 31, .inl (fun _ => 0))), (q3806, .inl (cyI, 6, .inl (fun _ => 0)))] := hD
  refine W.widen (k := 3) (n := 307) (by omega) (by omega) ?_
  refine va_putF (D := (dC, dI)) (ci := 0) (v := .ref q3806) (ty := .array .int) (C := RX0) (T := TX0) (N := 4) hx hb hts hi0 tyX0 tyX0_ok nmX0 hown hK hP hD hS 0 rfl rfl 2 (by decide) (hts _ (ow_m (k := 6) rfl)) (fun _ h9 => h9) rfl hin rfl (by decide +kernel) rfl rfl (Nat.le_of_ble_eq_true rfl) dX0_init_26 (fun H locs hP hD hS => ?_)
  have hP : va_P (dC, dI) vwCl [(q3800, .inr (0, [.ref q3804, .ref q3805, .ref q3806, .int 0])), (q3804, .inl (cyI, 270, .inl (fun _ => 0))), (q3805, .inl (cyI, 31, .inl (fun _ => 0))), (q3806, .inl (cyI, 6, .inl (fun _ => 0)))] H := hP
  have hD : va_D A [(q3800, .inr (0, [.ref q3804, .ref q3805, .ref q3806, .int 0])), (q3804, .inl (cyI, 270, .inl (fun _ => 0))), (q3805, .inl (cyI, 31, .inl (fun _ => 0))), (q3806, .inl (cyI, 6, .inl (fun _ => 0)))] := hD
  exact W.vret hx hb hr (fun t ht hW => ⟨⟨(fun k => match k with | 0 => q3804 | 1 => q3805 | _ => q3806), rfl, trivial, cE.of ht hP hD [0, 1, 2, 3] (by decide) rfl⟩, hS.F ht⟩) hS.2.2 dX0_init_29
def wo_k_X0_clear_v2 : List Cond := [.fieldLink RX0 21 "ReplicaChain$Formula" "length" "I"]
def wq_k_X0_clear_v2 : List Cond := .code yX0_clear cX0_clear 1 none :: (wo_k_X0_clear_v2 ++ (wsX00 ++ []))
theorem gd_k_X0_clear_v2 : Gd wq_k_X0_clear_v2 := gd_c (gd_a (gd_o (by decide +kernel)) (gd_a gd_u gd_0))
abbrev wc_k_X0_clear_v2 (cyB cyI cyJ cyZ cyO : ClassId) (q3800 : Nat) (u3808 : Nat → Nat) : va_W := [(q3800, .inr (0, [.ref (u3808 0), .ref (u3808 1), .ref (u3808 2), .int 0]))]
set_option maxHeartbeats 4000000 in
set_option maxRecDepth 100000 in
theorem k_X0_clear_v2 (l : Launch) (dC : Nat → ClassId) (dI : Nat → Nat → Nat) (cyB cyI cyJ cyZ cyO : ClassId) (q3800 : Nat) (u3808 : Nat → Nat) (sz : Nat) : Met l yX0_clear wq_k_X0_clear_v2 ({ frames := 0, cells := 0, slots := 0, locals := 0 }) (va_Pc [.ref q3800] (cB (dC, dI) (kT cyB cyI cyJ cyZ cyO) (wc_k_X0_clear_v2 cyB cyI cyJ cyZ cyO q3800 u3808) sz)) (va_Qv (fun _ => True) (fun (u : Unit) t => cE (dC, dI) (va_A (wc_k_X0_clear_v2 cyB cyI cyJ cyZ cyO q3800 u3808) sz) ([(q3800, .inr (0, [.ref (u3808 0), .ref (u3808 1), .ref (u3808 2), .int 0]))]) t.heap) (va_A (wc_k_X0_clear_v2 cyB cyI cyJ cyZ cyO q3800 u3808) sz)) 0 0 (va_A (wc_k_X0_clear_v2 cyB cyI cyJ cyZ cyO q3800 u3808) sz) := by
  refine Met.ofW (cc := cX0_clear) (maxL := 1) (ret := none) (by decide) rfl ?_
  intro p e s m args below meth c s₁ B hml hv
  obtain ⟨rfl, hsz, hP, hKN, hD0⟩ := hv
  have hx := B.exec
  have hb := B.bytes
  have hr := B.returns
  have hts := atoms_spec (ws := wq_k_X0_clear_v2) B.pre
  have hown : s.vm.findClass RX0 = some m.cls := findClass_of_methodNamed B.named
  have hlocks := B.notSynchronized
  have hK := hKN.1
  have hfix : CallFix p m c cX0_clear 1 s [.ref q3800].toArray wq_k_X0_clear_v2 RX0 := ⟨hx, hb, hml, hown, hts⟩
  have hi0 : ∀ w ∈ wsX00, w ∈ wq_k_X0_clear_v2 := (sb_c sb_l)
  subst hsz
  have hD := hD0.self (sz := s.heap.size)
  generalize hAe : va_A (wc_k_X0_clear_v2 cyB cyI cyJ cyZ cyO q3800 u3808) s.heap.size = A at hD ⊢
  have hA : ∀ q : Nat, s.heap.size ≤ q → A q := fun q h => by rw [← hAe]; exact Or.inr h
  have hS : va_S A s.heap s.heap [] := va_S.rf
  have hl := lv_entry ([.ref q3800]) (n := 1) (Nat.le_of_ble_eq_true rfl)
  rw [lg_entry_eq]
  generalize (lg_sl ([.ref q3800]) ++ List.replicate (1 - (lg_sl ([.ref q3800])).length) Slot.unset).toArray = ls at hl ⊢
  have hl : lv_has ls 1 [(0, .ref q3800)] := hl
  refine lv_aload_n hx hb dX0_clear_0 rfl (lv_at hl 0 rfl) ?_
  refine lv_iconst (v := 0) hx hb dX0_clear_1 (by decide) ?_
  refine va_put (D := (dC, dI)) (ci := 0) (v := .int 0) (ty := .int) (C := RX0) (T := TX0) (N := 4) hx hb hts hi0 tyX0 tyX0_ok nmX0 hown hK hP hD hS 0 rfl rfl 3 (by decide) (hts _ (ow_m (k := 0) rfl)) (fun _ h9 => h9) rfl (by decide +kernel) rfl rfl (Nat.le_of_ble_eq_true rfl) dX0_clear_2 (fun H locs hP hD hS => ?_)
  have hP : va_P (dC, dI) vwCl [(q3800, .inr (0, [.ref (u3808 0), .ref (u3808 1), .ref (u3808 2), .int 0]))] H := hP
  have hD : va_D A [(q3800, .inr (0, [.ref (u3808 0), .ref (u3808 1), .ref (u3808 2), .int 0]))] := hD
  exact W.vret hx hb hr (fun t ht hW => ⟨⟨(), rfl, trivial, cE.of ht hP hD [0] (by decide) rfl⟩, hS.F ht⟩) hS.2.2 dX0_clear_5
def wo_k_X1_clear_v2 : List Cond := [.fieldLink RX1 25 "ReplicaChain$Plan" "slow" "LReplicaChain$Formula;", .methodLink RX1 32 yX0_clear, .instanceMethod yX0_clear, .selects RX0 yX0_clear yX0_clear, .initialized RX0, .fieldLink RX1 33 "ReplicaChain$Plan" "memberCount" "I", .fieldLink RX1 37 "ReplicaChain$Plan" "nodeCount" "I", .fieldLink RX1 40 "ReplicaChain$Plan" "keyCount" "I", .fieldLink RX1 43 "ReplicaChain$Plan" "units" "I", .fieldLink RX1 46 "ReplicaChain$Plan" "copy" "I", .fieldLink RX1 49 "ReplicaChain$Plan" "loss" "I", .fieldLink RX1 52 "ReplicaChain$Plan" "draw" "I"]
def wq_k_X1_clear_v2 : List Cond := .code yX1_clear cX1_clear 1 none :: (wo_k_X1_clear_v2 ++ (wq_k_X0_clear_v2 ++ (wsX10 ++ [])))
theorem gd_k_X1_clear_v2 : Gd wq_k_X1_clear_v2 := gd_c (gd_a (gd_o (by decide +kernel)) (gd_a gd_k_X0_clear_v2 (gd_a gd_u gd_0)))
abbrev wc_k_X1_clear_v2 (cyB cyI cyJ cyZ cyO : ClassId) (q3796 : Nat) (q3797 : Nat) (q3798 : Nat) (q3799 : Nat) (q3800 : Nat) (u3808 : Nat → Nat) : va_W := [(q3796, .inr (1, [.ref q3797, .ref q3798, .ref q3799, .ref q3800, .int 0, .int 0, .int 0, .int 0, .int 0, .int 0, .int 0])), (q3800, .inr (0, [.ref (u3808 0), .ref (u3808 1), .ref (u3808 2), .int 0]))]
set_option maxHeartbeats 4000000 in
set_option maxRecDepth 100000 in
theorem k_X1_clear_v2 (l : Launch) (dC : Nat → ClassId) (dI : Nat → Nat → Nat) (cyB cyI cyJ cyZ cyO : ClassId) (q3796 : Nat) (q3797 : Nat) (q3798 : Nat) (q3799 : Nat) (q3800 : Nat) (u3808 : Nat → Nat) (sz : Nat) : Met l yX1_clear wq_k_X1_clear_v2 ({ frames := 1, cells := 0, slots := 0, locals := 20 }) (va_Pc [.ref q3796] (cB (dC, dI) (kT cyB cyI cyJ cyZ cyO) (wc_k_X1_clear_v2 cyB cyI cyJ cyZ cyO q3796 q3797 q3798 q3799 q3800 u3808) sz)) (va_Qv (fun _ => True) (fun (u : Unit) t => cE (dC, dI) (va_A (wc_k_X1_clear_v2 cyB cyI cyJ cyZ cyO q3796 q3797 q3798 q3799 q3800 u3808) sz) ([(q3796, .inr (1, [.ref q3797, .ref q3798, .ref q3799, .ref q3800, .int 0, .int 0, .int 0, .int 0, .int 2, .int 0, .int 0])), (q3800, .inr (0, [.ref (u3808 0), .ref (u3808 1), .ref (u3808 2), .int 0]))]) t.heap) (va_A (wc_k_X1_clear_v2 cyB cyI cyJ cyZ cyO q3796 q3797 q3798 q3799 q3800 u3808) sz)) 0 0 (va_A (wc_k_X1_clear_v2 cyB cyI cyJ cyZ cyO q3796 q3797 q3798 q3799 q3800 u3808) sz) := by
  refine Met.ofW (cc := cX1_clear) (maxL := 1) (ret := none) (by decide) rfl ?_
  intro p e s m args below meth c s₁ B hml hv
  obtain ⟨rfl, hsz, hP, hKN, hD0⟩ := hv
  have hx := B.exec
  have hb := B.bytes
  have hr := B.returns
  have hts := atoms_spec (ws := wq_k_X1_clear_v2) B.pre
  have hown : s.vm.findClass RX1 = some m.cls := findClass_of_methodNamed B.named
  have hlocks := B.notSynchronized
  have hK := hKN.1
  have hfix : CallFix p m c cX1_clear 1 s [.ref q3796].toArray wq_k_X1_clear_v2 RX1 := ⟨hx, hb, hml, hown, hts⟩
  have hi1 : ∀ w ∈ wsX10, w ∈ wq_k_X1_clear_v2 := (sb_c (sb_r sb_l))
  subst hsz
  have hD := hD0.self (sz := s.heap.size)
  generalize hAe : va_A (wc_k_X1_clear_v2 cyB cyI cyJ cyZ cyO q3796 q3797 q3798 q3799 q3800 u3808) s.heap.size = A at hD ⊢
  have hA : ∀ q : Nat, s.heap.size ≤ q → A q := fun q h => by rw [← hAe]; exact Or.inr h
  have hS : va_S A s.heap s.heap [] := va_S.rf
  have hl := lv_entry ([.ref q3796]) (n := 1) (Nat.le_of_ble_eq_true rfl)
  rw [lg_entry_eq]
  generalize (lg_sl ([.ref q3796]) ++ List.replicate (1 - (lg_sl ([.ref q3796])).length) Slot.unset).toArray = ls at hl ⊢
  have hl : lv_has ls 1 [(0, .ref q3796)] := hl
  refine lv_aload_n hx hb dX1_clear_0 rfl (lv_at hl 0 rfl) ?_
  refine va_get (D := (dC, dI)) (ci := 1) (v := .ref q3800) (C := RX1) (T := TX1) (N := 11) hx hb hts hi1 hown hK hP 0 rfl rfl 3 (by decide) (hts _ (ow_m (k := 0) rfl)) (fun _ h9 => h9) rfl dX1_clear_1 ?_
  refine gf_v (wr := [(q3796, .inr (1, [.ref q3797, .ref q3798, .ref q3799, .ref q3800, .int 0, .int 0, .int 0, .int 0, .int 0, .int 0, .int 0]))]) (va_runV (As := []) (rest := []) hfix (k_X0_clear_v2 l dC dI cyB cyI cyJ cyZ cyO q3800 u3808 _) (cwV 0 hts (gi_V (ow_m (k := 1) rfl) (ow_m (k := 2) rfl) (ow_m (k := 3) rfl) (ow_m (k := 4) rfl) (sb_c sb_l) gd_k_X0_clear_v2) rfl rfl rfl (by decide +kernel) ⟨Nat.le_of_ble_eq_true rfl, Nat.le_of_ble_eq_true rfl⟩) (g_preV hKN hP hD [1] rfl (by decide) 0 0 rfl rfl) rfl rfl hl.1 rfl (lv_room (Nat.le_of_ble_eq_true rfl)) dX1_clear_4 ⟨Nat.le_of_ble_eq_true rfl, Nat.le_of_ble_eq_true rfl⟩) hP hD hS hA [1] [0] rfl rfl (by decide) (by decide) (fun u3812 H locs qu3812 hP hD hS => ?_)
  have hP : va_P (dC, dI) vwCl [(q3796, .inr (1, [.ref q3797, .ref q3798, .ref q3799, .ref q3800, .int 0, .int 0, .int 0, .int 0, .int 0, .int 0, .int 0])), (q3800, .inr (0, [.ref (u3808 0), .ref (u3808 1), .ref (u3808 2), .int 0]))] H := hP
  have hD : va_D A [(q3796, .inr (1, [.ref q3797, .ref q3798, .ref q3799, .ref q3800, .int 0, .int 0, .int 0, .int 0, .int 0, .int 0, .int 0])), (q3800, .inr (0, [.ref (u3808 0), .ref (u3808 1), .ref (u3808 2), .int 0]))] := hD
  refine lv_aload_n hx hb dX1_clear_7 rfl (lv_at hl 0 rfl) ?_
  refine lv_iconst (v := 0) hx hb dX1_clear_8 (by decide) ?_
  refine va_put (D := (dC, dI)) (ci := 1) (v := .int 0) (ty := .int) (C := RX1) (T := TX1) (N := 11) hx hb hts hi1 tyX1 tyX1_ok nmX1 hown hK hP hD hS 0 rfl rfl 4 (by decide) (hts _ (ow_m (k := 5) rfl)) (fun _ h9 => h9) rfl (by decide +kernel) rfl rfl (Nat.le_of_ble_eq_true rfl) dX1_clear_9 (fun H locs hP hD hS => ?_)
  have hP : va_P (dC, dI) vwCl [(q3796, .inr (1, [.ref q3797, .ref q3798, .ref q3799, .ref q3800, .int 0, .int 0, .int 0, .int 0, .int 0, .int 0, .int 0])), (q3800, .inr (0, [.ref (u3808 0), .ref (u3808 1), .ref (u3808 2), .int 0]))] H := hP
  have hD : va_D A [(q3796, .inr (1, [.ref q3797, .ref q3798, .ref q3799, .ref q3800, .int 0, .int 0, .int 0, .int 0, .int 0, .int 0, .int 0])), (q3800, .inr (0, [.ref (u3808 0), .ref (u3808 1), .ref (u3808 2), .int 0]))] := hD
  refine lv_aload_n hx hb dX1_clear_12 rfl (lv_at hl 0 rfl) ?_
  refine lv_iconst (v := 0) hx hb dX1_clear_13 (by decide) ?_
  refine va_put (D := (dC, dI)) (ci := 1) (v := .int 0) (ty := .int) (C := RX1) (T := TX1) (N := 11) hx hb hts hi1 tyX1 tyX1_ok nmX1 hown hK hP hD hS 0 rfl rfl 5 (by decide) (hts _ (ow_m (k := 6) rfl)) (fun _ h9 => h9) rfl (by decide +kernel) rfl rfl (Nat.le_of_ble_eq_true rfl) dX1_clear_14 (fun H locs hP hD hS => ?_)
  have hP : va_P (dC, dI) vwCl [(q3796, .inr (1, [.ref q3797, .ref q3798, .ref q3799, .ref q3800, .int 0, .int 0, .int 0, .int 0, .int 0, .int 0, .int 0])), (q3800, .inr (0, [.ref (u3808 0), .ref (u3808 1), .ref (u3808 2), .int 0]))] H := hP
  have hD : va_D A [(q3796, .inr (1, [.ref q3797, .ref q3798, .ref q3799, .ref q3800, .int 0, .int 0, .int 0, .int 0, .int 0, .int 0, .int 0])), (q3800, .inr (0, [.ref (u3808 0), .ref (u3808 1), .ref (u3808 2), .int 0]))] := hD
  refine lv_aload_n hx hb dX1_clear_17 rfl (lv_at hl 0 rfl) ?_
  refine lv_iconst (v := 0) hx hb dX1_clear_18 (by decide) ?_
  refine va_put (D := (dC, dI)) (ci := 1) (v := .int 0) (ty := .int) (C := RX1) (T := TX1) (N := 11) hx hb hts hi1 tyX1 tyX1_ok nmX1 hown hK hP hD hS 0 rfl rfl 6 (by decide) (hts _ (ow_m (k := 7) rfl)) (fun _ h9 => h9) rfl (by decide +kernel) rfl rfl (Nat.le_of_ble_eq_true rfl) dX1_clear_19 (fun H locs hP hD hS => ?_)
  have hP : va_P (dC, dI) vwCl [(q3796, .inr (1, [.ref q3797, .ref q3798, .ref q3799, .ref q3800, .int 0, .int 0, .int 0, .int 0, .int 0, .int 0, .int 0])), (q3800, .inr (0, [.ref (u3808 0), .ref (u3808 1), .ref (u3808 2), .int 0]))] H := hP
  have hD : va_D A [(q3796, .inr (1, [.ref q3797, .ref q3798, .ref q3799, .ref q3800, .int 0, .int 0, .int 0, .int 0, .int 0, .int 0, .int 0])), (q3800, .inr (0, [.ref (u3808 0), .ref (u3808 1), .ref (u3808 2), .int 0]))] := hD
  refine lv_aload_n hx hb dX1_clear_22 rfl (lv_at hl 0 rfl) ?_
  refine lv_iconst (v := 0) hx hb dX1_clear_23 (by decide) ?_
  refine va_put (D := (dC, dI)) (ci := 1) (v := .int 0) (ty := .int) (C := RX1) (T := TX1) (N := 11) hx hb hts hi1 tyX1 tyX1_ok nmX1 hown hK hP hD hS 0 rfl rfl 7 (by decide) (hts _ (ow_m (k := 8) rfl)) (fun _ h9 => h9) rfl (by decide +kernel) rfl rfl (Nat.le_of_ble_eq_true rfl) dX1_clear_24 (fun H locs hP hD hS => ?_)
  have hP : va_P (dC, dI) vwCl [(q3796, .inr (1, [.ref q3797, .ref q3798, .ref q3799, .ref q3800, .int 0, .int 0, .int 0, .int 0, .int 0, .int 0, .int 0])), (q3800, .inr (0, [.ref (u3808 0), .ref (u3808 1), .ref (u3808 2), .int 0]))] H := hP
  have hD : va_D A [(q3796, .inr (1, [.ref q3797, .ref q3798, .ref q3799, .ref q3800, .int 0, .int 0, .int 0, .int 0, .int 0, .int 0, .int 0])), (q3800, .inr (0, [.ref (u3808 0), .ref (u3808 1), .ref (u3808 2), .int 0]))] := hD
  refine lv_aload_n hx hb dX1_clear_27 rfl (lv_at hl 0 rfl) ?_
  refine lv_iconst (v := 2) hx hb dX1_clear_28 (by decide) ?_
  refine va_put (D := (dC, dI)) (ci := 1) (v := .int 2) (ty := .int) (C := RX1) (T := TX1) (N := 11) hx hb hts hi1 tyX1 tyX1_ok nmX1 hown hK hP hD hS 0 rfl rfl 8 (by decide) (hts _ (ow_m (k := 9) rfl)) (fun _ h9 => h9) rfl (by decide +kernel) rfl rfl (Nat.le_of_ble_eq_true rfl) dX1_clear_29 (fun H locs hP hD hS => ?_)
  have hP : va_P (dC, dI) vwCl [(q3796, .inr (1, [.ref q3797, .ref q3798, .ref q3799, .ref q3800, .int 0, .int 0, .int 0, .int 0, .int 2, .int 0, .int 0])), (q3800, .inr (0, [.ref (u3808 0), .ref (u3808 1), .ref (u3808 2), .int 0]))] H := hP
  have hD : va_D A [(q3796, .inr (1, [.ref q3797, .ref q3798, .ref q3799, .ref q3800, .int 0, .int 0, .int 0, .int 0, .int 2, .int 0, .int 0])), (q3800, .inr (0, [.ref (u3808 0), .ref (u3808 1), .ref (u3808 2), .int 0]))] := hD
  refine lv_aload_n hx hb dX1_clear_32 rfl (lv_at hl 0 rfl) ?_
  refine lv_iconst (v := 0) hx hb dX1_clear_33 (by decide) ?_
  refine va_put (D := (dC, dI)) (ci := 1) (v := .int 0) (ty := .int) (C := RX1) (T := TX1) (N := 11) hx hb hts hi1 tyX1 tyX1_ok nmX1 hown hK hP hD hS 0 rfl rfl 9 (by decide) (hts _ (ow_m (k := 10) rfl)) (fun _ h9 => h9) rfl (by decide +kernel) rfl rfl (Nat.le_of_ble_eq_true rfl) dX1_clear_34 (fun H locs hP hD hS => ?_)
  have hP : va_P (dC, dI) vwCl [(q3796, .inr (1, [.ref q3797, .ref q3798, .ref q3799, .ref q3800, .int 0, .int 0, .int 0, .int 0, .int 2, .int 0, .int 0])), (q3800, .inr (0, [.ref (u3808 0), .ref (u3808 1), .ref (u3808 2), .int 0]))] H := hP
  have hD : va_D A [(q3796, .inr (1, [.ref q3797, .ref q3798, .ref q3799, .ref q3800, .int 0, .int 0, .int 0, .int 0, .int 2, .int 0, .int 0])), (q3800, .inr (0, [.ref (u3808 0), .ref (u3808 1), .ref (u3808 2), .int 0]))] := hD
  refine lv_aload_n hx hb dX1_clear_37 rfl (lv_at hl 0 rfl) ?_
  refine lv_iconst (v := 0) hx hb dX1_clear_38 (by decide) ?_
  refine va_put (D := (dC, dI)) (ci := 1) (v := .int 0) (ty := .int) (C := RX1) (T := TX1) (N := 11) hx hb hts hi1 tyX1 tyX1_ok nmX1 hown hK hP hD hS 0 rfl rfl 10 (by decide) (hts _ (ow_m (k := 11) rfl)) (fun _ h9 => h9) rfl (by decide +kernel) rfl rfl (Nat.le_of_ble_eq_true rfl) dX1_clear_39 (fun H locs hP hD hS => ?_)
  have hP : va_P (dC, dI) vwCl [(q3796, .inr (1, [.ref q3797, .ref q3798, .ref q3799, .ref q3800, .int 0, .int 0, .int 0, .int 0, .int 2, .int 0, .int 0])), (q3800, .inr (0, [.ref (u3808 0), .ref (u3808 1), .ref (u3808 2), .int 0]))] H := hP
  have hD : va_D A [(q3796, .inr (1, [.ref q3797, .ref q3798, .ref q3799, .ref q3800, .int 0, .int 0, .int 0, .int 0, .int 2, .int 0, .int 0])), (q3800, .inr (0, [.ref (u3808 0), .ref (u3808 1), .ref (u3808 2), .int 0]))] := hD
  exact W.vret hx hb hr (fun t ht hW => ⟨⟨(), rfl, trivial, cE.of ht hP hD [0, 1] (by decide) rfl⟩, hS.F ht⟩) hS.2.2 dX1_clear_42
def wo_k_X0_init_v2 : List Cond := [.methodLink RX0 3 objectInit, .instanceMethod objectInit, .code objectInit ⟨#[0xb1]⟩ 1 none, .arrayClass .int, .fieldLink RX0 11 "ReplicaChain$Formula" "steps" "[I", .fieldLink RX0 15 "ReplicaChain$Formula" "stack" "[I", .fieldLink RX0 18 "ReplicaChain$Formula" "facts" "[I"]
def wq_k_X0_init_v2 : List Cond := .code yX0_init cX0_init 1 none :: (wo_k_X0_init_v2 ++ (wsX00 ++ []))
theorem gd_k_X0_init_v2 : Gd wq_k_X0_init_v2 := gd_c (gd_a (gd_o (by decide +kernel)) (gd_a gd_u gd_0))
abbrev wc_k_X0_init_v2 (cyB cyI cyJ cyZ cyO : ClassId) (q3818 : Nat) : va_W := [(q3818, .inr (0, [.null, .null, .null, .int 0]))]
set_option maxHeartbeats 4000000 in
set_option maxRecDepth 100000 in
theorem k_X0_init_v2 (l : Launch) (dC : Nat → ClassId) (dI : Nat → Nat → Nat) (cyB cyI cyJ cyZ cyO : ClassId) (q3818 : Nat) (sz : Nat) : Met l yX0_init wq_k_X0_init_v2 ({ frames := 1, cells := 3, slots := 307, locals := 20 }) (va_Pc [.ref q3818] (cB (dC, dI) (kT cyB cyI cyJ cyZ cyO) (wc_k_X0_init_v2 cyB cyI cyJ cyZ cyO q3818) sz)) (va_Qv (fun _ => True) (fun (u : Nat → Nat) t => cE (dC, dI) (va_A (wc_k_X0_init_v2 cyB cyI cyJ cyZ cyO q3818) sz) ([(q3818, .inr (0, [.ref (u 0), .ref (u 1), .ref (u 2), .int 0])), (u 0, .inl (cyI, 270, .inl (fun _ => 0))), (u 1, .inl (cyI, 31, .inl (fun _ => 0))), (u 2, .inl (cyI, 6, .inl (fun _ => 0)))]) t.heap) (va_A (wc_k_X0_init_v2 cyB cyI cyJ cyZ cyO q3818) sz)) 3 307 (va_A (wc_k_X0_init_v2 cyB cyI cyJ cyZ cyO q3818) sz) := by
  refine Met.ofW (cc := cX0_init) (maxL := 1) (ret := none) (by decide) rfl ?_
  intro p e s m args below meth c s₁ B hml hv
  obtain ⟨rfl, hsz, hP, hKN, hD0⟩ := hv
  have hx := B.exec
  have hb := B.bytes
  have hr := B.returns
  have hts := atoms_spec (ws := wq_k_X0_init_v2) B.pre
  have hown : s.vm.findClass RX0 = some m.cls := findClass_of_methodNamed B.named
  have hlocks := B.notSynchronized
  have hin : meth.name = "<init>" := (name_of_methodNamed B.named B.method).1
  have hK := hKN.1
  have hfix : CallFix p m c cX0_init 1 s [.ref q3818].toArray wq_k_X0_init_v2 RX0 := ⟨hx, hb, hml, hown, hts⟩
  have hi0 : ∀ w ∈ wsX00, w ∈ wq_k_X0_init_v2 := (sb_c sb_l)
  subst hsz
  have hD := hD0.self (sz := s.heap.size)
  generalize hAe : va_A (wc_k_X0_init_v2 cyB cyI cyJ cyZ cyO q3818) s.heap.size = A at hD ⊢
  have hA : ∀ q : Nat, s.heap.size ≤ q → A q := fun q h => by rw [← hAe]; exact Or.inr h
  have hS : va_S A s.heap s.heap [] := va_S.rf
  have hl := lv_entry ([.ref q3818]) (n := 1) (Nat.le_of_ble_eq_true rfl)
  rw [lg_entry_eq]
  generalize (lg_sl ([.ref q3818]) ++ List.replicate (1 - (lg_sl ([.ref q3818])).length) Slot.unset).toArray = ls at hl ⊢
  have hl : lv_has ls 1 [(0, .ref q3818)] := hl
  refine lv_aload_n hx hb dX0_init_0 rfl (lv_at hl 0 rfl) ?_
  refine W.objInit hx hb hown (hts _ (ow_m (k := 0) rfl)) (hts _ (ow_m (k := 1) rfl)) (hts _ (ow_m (k := 2) rfl)) rfl (by rw [hml]; exact hl.1) rfl dX0_init_1 (Nat.le_of_ble_eq_true rfl) (Nat.le_of_ble_eq_true rfl) ?_
  refine W.eq (g2 := F0 m 4 ls []) rfl ?_
  refine lv_aload_n hx hb dX0_init_4 rfl (lv_at hl 0 rfl) ?_
  refine lv_sipush (v := 270) hx hb dX0_init_5 (by decide) ?_
  refine g_newa (a0 := (270, .inl (fun _ => 0))) hx hb (hts _ (ow_m (k := 3) rfl)) rfl hKN hP hD hS hA 1 rfl rfl (fun _ => rfl) (by decide) (by decide) (by decide) (Nat.le_of_ble_eq_true rfl) (Nat.le_of_ble_eq_true rfl) dX0_init_8 (fun q3822 H hP hD hS => ?_)
  have hP : va_P (dC, dI) vwCl [(q3818, .inr (0, [.null, .null, .null, .int 0])), (q3822, .inl (cyI, 270, .inl (fun _ => 0)))] H := hP
  have hD : va_D A [(q3818, .inr (0, [.null, .null, .null, .int 0])), (q3822, .inl (cyI, 270, .inl (fun _ => 0)))] := hD
  refine W.widen (k := 1) (n := 270) (by omega) (by omega) ?_
  refine va_putF (D := (dC, dI)) (ci := 0) (v := .ref q3822) (ty := .array .int) (C := RX0) (T := TX0) (N := 4) hx hb hts hi0 tyX0 tyX0_ok nmX0 hown hK hP hD hS 0 rfl rfl 0 (by decide) (hts _ (ow_m (k := 4) rfl)) (fun _ h9 => h9) rfl hin rfl (by decide +kernel) rfl rfl (Nat.le_of_ble_eq_true rfl) dX0_init_10 (fun H locs hP hD hS => ?_)
  have hP : va_P (dC, dI) vwCl [(q3818, .inr (0, [.ref q3822, .null, .null, .int 0])), (q3822, .inl (cyI, 270, .inl (fun _ => 0)))] H := hP
  have hD : va_D A [(q3818, .inr (0, [.ref q3822, .null, .null, .int 0])), (q3822, .inl (cyI, 270, .inl (fun _ => 0)))] := hD
  refine lv_aload_n hx hb dX0_init_13 rfl (lv_at hl 0 rfl) ?_
  refine lv_bipush (v := 31) hx hb dX0_init_14 (by decide) ?_
  refine g_newa (a0 := (31, .inl (fun _ => 0))) hx hb (hts _ (ow_m (k := 3) rfl)) rfl hKN hP hD hS hA 1 rfl rfl (fun _ => rfl) (by decide) (by decide) (by decide) (Nat.le_of_ble_eq_true rfl) (Nat.le_of_ble_eq_true rfl) dX0_init_16 (fun q3823 H hP hD hS => ?_)
  have hP : va_P (dC, dI) vwCl [(q3818, .inr (0, [.ref q3822, .null, .null, .int 0])), (q3822, .inl (cyI, 270, .inl (fun _ => 0))), (q3823, .inl (cyI, 31, .inl (fun _ => 0)))] H := hP
  have hD : va_D A [(q3818, .inr (0, [.ref q3822, .null, .null, .int 0])), (q3822, .inl (cyI, 270, .inl (fun _ => 0))), (q3823, .inl (cyI, 31, .inl (fun _ => 0)))] := hD
  refine W.widen (k := 2) (n := 301) (by omega) (by omega) ?_
  refine va_putF (D := (dC, dI)) (ci := 0) (v := .ref q3823) (ty := .array .int) (C := RX0) (T := TX0) (N := 4) hx hb hts hi0 tyX0 tyX0_ok nmX0 hown hK hP hD hS 0 rfl rfl 1 (by decide) (hts _ (ow_m (k := 5) rfl)) (fun _ h9 => h9) rfl hin rfl (by decide +kernel) rfl rfl (Nat.le_of_ble_eq_true rfl) dX0_init_18 (fun H locs hP hD hS => ?_)
  have hP : va_P (dC, dI) vwCl [(q3818, .inr (0, [.ref q3822, .ref q3823, .null, .int 0])), (q3822, .inl (cyI, 270, .inl (fun _ => 0))), (q3823, .inl (cyI, 31, .inl (fun _ => 0)))] H := hP
  have hD : va_D A [(q3818, .inr (0, [.ref q3822, .ref q3823, .null, .int 0])), (q3822, .inl (cyI, 270, .inl (fun _ => 0))), (q3823, .inl (cyI, 31, .inl (fun _ => 0)))] := hD
  refine lv_aload_n hx hb dX0_init_21 rfl (lv_at hl 0 rfl) ?_
  refine lv_bipush (v := 6) hx hb dX0_init_22 (by decide) ?_
  refine g_newa (a0 := (6, .inl (fun _ => 0))) hx hb (hts _ (ow_m (k := 3) rfl)) rfl hKN hP hD hS hA 1 rfl rfl (fun _ => rfl) (by decide) (by decide) (by decide) (Nat.le_of_ble_eq_true rfl) (Nat.le_of_ble_eq_true rfl) dX0_init_24 (fun q3824 H hP hD hS => ?_)
  have hP : va_P (dC, dI) vwCl [(q3818, .inr (0, [.ref q3822, .ref q3823, .null, .int 0])), (q3822, .inl (cyI, 270, .inl (fun _ => 0))), (q3823, .inl (cyI, 31, .inl (fun _ => 0))), (q3824, .inl (cyI, 6, .inl (fun _ => 0)))] H := hP
  have hD : va_D A [(q3818, .inr (0, [.ref q3822, .ref q3823, .null, .int 0])), (q3822, .inl (cyI, 270, .inl (fun _ => 0))), (q3823, .inl (cyI, 31, .inl (fun _ => 0))), (q3824, .inl (cyI, 6, .inl (fun _ => 0)))] := hD
  refine W.widen (k := 3) (n := 307) (by omega) (by omega) ?_
  refine va_putF (D := (dC, dI)) (ci := 0) (v := .ref q3824) (ty := .array .int) (C := RX0) (T := TX0) (N := 4) hx hb hts hi0 tyX0 tyX0_ok nmX0 hown hK hP hD hS 0 rfl rfl 2 (by decide) (hts _ (ow_m (k := 6) rfl)) (fun _ h9 => h9) rfl hin rfl (by decide +kernel) rfl rfl (Nat.le_of_ble_eq_true rfl) dX0_init_26 (fun H locs hP hD hS => ?_)
  have hP : va_P (dC, dI) vwCl [(q3818, .inr (0, [.ref q3822, .ref q3823, .ref q3824, .int 0])), (q3822, .inl (cyI, 270, .inl (fun _ => 0))), (q3823, .inl (cyI, 31, .inl (fun _ => 0))), (q3824, .inl (cyI, 6, .inl (fun _ => 0)))] H := hP
  have hD : va_D A [(q3818, .inr (0, [.ref q3822, .ref q3823, .ref q3824, .int 0])), (q3822, .inl (cyI, 270, .inl (fun _ => 0))), (q3823, .inl (cyI, 31, .inl (fun _ => 0))), (q3824, .inl (cyI, 6, .inl (fun _ => 0)))] := hD
  exact W.vret hx hb hr (fun t ht hW => ⟨⟨(fun k => match k with | 0 => q3822 | 1 => q3823 | _ => q3824), rfl, trivial, cE.of ht hP hD [0, 1, 2, 3] (by decide) rfl⟩, hS.F ht⟩) hS.2.2 dX0_init_29
def wo_k_X0_clear_v3 : List Cond := [.fieldLink RX0 21 "ReplicaChain$Formula" "length" "I"]
def wq_k_X0_clear_v3 : List Cond := .code yX0_clear cX0_clear 1 none :: (wo_k_X0_clear_v3 ++ (wsX00 ++ []))
theorem gd_k_X0_clear_v3 : Gd wq_k_X0_clear_v3 := gd_c (gd_a (gd_o (by decide +kernel)) (gd_a gd_u gd_0))
abbrev wc_k_X0_clear_v3 (cyB cyI cyJ cyZ cyO : ClassId) (q3818 : Nat) (u3826 : Nat → Nat) : va_W := [(q3818, .inr (0, [.ref (u3826 0), .ref (u3826 1), .ref (u3826 2), .int 0]))]
set_option maxHeartbeats 4000000 in
set_option maxRecDepth 100000 in
theorem k_X0_clear_v3 (l : Launch) (dC : Nat → ClassId) (dI : Nat → Nat → Nat) (cyB cyI cyJ cyZ cyO : ClassId) (q3818 : Nat) (u3826 : Nat → Nat) (sz : Nat) : Met l yX0_clear wq_k_X0_clear_v3 ({ frames := 0, cells := 0, slots := 0, locals := 0 }) (va_Pc [.ref q3818] (cB (dC, dI) (kT cyB cyI cyJ cyZ cyO) (wc_k_X0_clear_v3 cyB cyI cyJ cyZ cyO q3818 u3826) sz)) (va_Qv (fun _ => True) (fun (u : Unit) t => cE (dC, dI) (va_A (wc_k_X0_clear_v3 cyB cyI cyJ cyZ cyO q3818 u3826) sz) ([(q3818, .inr (0, [.ref (u3826 0), .ref (u3826 1), .ref (u3826 2), .int 0]))]) t.heap) (va_A (wc_k_X0_clear_v3 cyB cyI cyJ cyZ cyO q3818 u3826) sz)) 0 0 (va_A (wc_k_X0_clear_v3 cyB cyI cyJ cyZ cyO q3818 u3826) sz) := by
  refine Met.ofW (cc := cX0_clear) (maxL := 1) (ret := none) (by decide) rfl ?_
  intro p e s m args below meth c s₁ B hml hv
  obtain ⟨rfl, hsz, hP, hKN, hD0⟩ := hv
  have hx := B.exec
  have hb := B.bytes
  have hr := B.returns
  have hts := atoms_spec (ws := wq_k_X0_clear_v3) B.pre
  have hown : s.vm.findClass RX0 = some m.cls := findClass_of_methodNamed B.named
  have hlocks := B.notSynchronized
  have hK := hKN.1
  have hfix : CallFix p m c cX0_clear 1 s [.ref q3818].toArray wq_k_X0_clear_v3 RX0 := ⟨hx, hb, hml, hown, hts⟩
  have hi0 : ∀ w ∈ wsX00, w ∈ wq_k_X0_clear_v3 := (sb_c sb_l)
  subst hsz
  have hD := hD0.self (sz := s.heap.size)
  generalize hAe : va_A (wc_k_X0_clear_v3 cyB cyI cyJ cyZ cyO q3818 u3826) s.heap.size = A at hD ⊢
  have hA : ∀ q : Nat, s.heap.size ≤ q → A q := fun q h => by rw [← hAe]; exact Or.inr h
  have hS : va_S A s.heap s.heap [] := va_S.rf
  have hl := lv_entry ([.ref q3818]) (n := 1) (Nat.le_of_ble_eq_true rfl)
  rw [lg_entry_eq]
  generalize (lg_sl ([.ref q3818]) ++ List.replicate (1 - (lg_sl ([.ref q3818])).length) Slot.unset).toArray = ls at hl ⊢
  have hl : lv_has ls 1 [(0, .ref q3818)] := hl
  refine lv_aload_n hx hb dX0_clear_0 rfl (lv_at hl 0 rfl) ?_
  refine lv_iconst (v := 0) hx hb dX0_clear_1 (by decide) ?_
  refine va_put (D := (dC, dI)) (ci := 0) (v := .int 0) (ty := .int) (C := RX0) (T := TX0) (N := 4) hx hb hts hi0 tyX0 tyX0_ok nmX0 hown hK hP hD hS 0 rfl rfl 3 (by decide) (hts _ (ow_m (k := 0) rfl)) (fun _ h9 => h9) rfl (by decide +kernel) rfl rfl (Nat.le_of_ble_eq_true rfl) dX0_clear_2 (fun H locs hP hD hS => ?_)
  have hP : va_P (dC, dI) vwCl [(q3818, .inr (0, [.ref (u3826 0), .ref (u3826 1), .ref (u3826 2), .int 0]))] H := hP
  have hD : va_D A [(q3818, .inr (0, [.ref (u3826 0), .ref (u3826 1), .ref (u3826 2), .int 0]))] := hD
  exact W.vret hx hb hr (fun t ht hW => ⟨⟨(), rfl, trivial, cE.of ht hP hD [0] (by decide) rfl⟩, hS.F ht⟩) hS.2.2 dX0_clear_5
def wo_k_X1_clear_v3 : List Cond := [.fieldLink RX1 25 "ReplicaChain$Plan" "slow" "LReplicaChain$Formula;", .methodLink RX1 32 yX0_clear, .instanceMethod yX0_clear, .selects RX0 yX0_clear yX0_clear, .initialized RX0, .fieldLink RX1 33 "ReplicaChain$Plan" "memberCount" "I", .fieldLink RX1 37 "ReplicaChain$Plan" "nodeCount" "I", .fieldLink RX1 40 "ReplicaChain$Plan" "keyCount" "I", .fieldLink RX1 43 "ReplicaChain$Plan" "units" "I", .fieldLink RX1 46 "ReplicaChain$Plan" "copy" "I", .fieldLink RX1 49 "ReplicaChain$Plan" "loss" "I", .fieldLink RX1 52 "ReplicaChain$Plan" "draw" "I"]
def wq_k_X1_clear_v3 : List Cond := .code yX1_clear cX1_clear 1 none :: (wo_k_X1_clear_v3 ++ (wq_k_X0_clear_v3 ++ (wsX10 ++ [])))
theorem gd_k_X1_clear_v3 : Gd wq_k_X1_clear_v3 := gd_c (gd_a (gd_o (by decide +kernel)) (gd_a gd_k_X0_clear_v3 (gd_a gd_u gd_0)))
abbrev wc_k_X1_clear_v3 (cyB cyI cyJ cyZ cyO : ClassId) (q3796 : Nat) (q3815 : Nat) (q3816 : Nat) (q3817 : Nat) (q3818 : Nat) (u3826 : Nat → Nat) : va_W := [(q3796, .inr (1, [.ref q3815, .ref q3816, .ref q3817, .ref q3818, .int 0, .int 0, .int 0, .int 0, .int 0, .int 0, .int 0])), (q3818, .inr (0, [.ref (u3826 0), .ref (u3826 1), .ref (u3826 2), .int 0]))]
set_option maxHeartbeats 4000000 in
set_option maxRecDepth 100000 in
theorem k_X1_clear_v3 (l : Launch) (dC : Nat → ClassId) (dI : Nat → Nat → Nat) (cyB cyI cyJ cyZ cyO : ClassId) (q3796 : Nat) (q3815 : Nat) (q3816 : Nat) (q3817 : Nat) (q3818 : Nat) (u3826 : Nat → Nat) (sz : Nat) : Met l yX1_clear wq_k_X1_clear_v3 ({ frames := 1, cells := 0, slots := 0, locals := 20 }) (va_Pc [.ref q3796] (cB (dC, dI) (kT cyB cyI cyJ cyZ cyO) (wc_k_X1_clear_v3 cyB cyI cyJ cyZ cyO q3796 q3815 q3816 q3817 q3818 u3826) sz)) (va_Qv (fun _ => True) (fun (u : Unit) t => cE (dC, dI) (va_A (wc_k_X1_clear_v3 cyB cyI cyJ cyZ cyO q3796 q3815 q3816 q3817 q3818 u3826) sz) ([(q3796, .inr (1, [.ref q3815, .ref q3816, .ref q3817, .ref q3818, .int 0, .int 0, .int 0, .int 0, .int 2, .int 0, .int 0])), (q3818, .inr (0, [.ref (u3826 0), .ref (u3826 1), .ref (u3826 2), .int 0]))]) t.heap) (va_A (wc_k_X1_clear_v3 cyB cyI cyJ cyZ cyO q3796 q3815 q3816 q3817 q3818 u3826) sz)) 0 0 (va_A (wc_k_X1_clear_v3 cyB cyI cyJ cyZ cyO q3796 q3815 q3816 q3817 q3818 u3826) sz) := by
  refine Met.ofW (cc := cX1_clear) (maxL := 1) (ret := none) (by decide) rfl ?_
  intro p e s m args below meth c s₁ B hml hv
  obtain ⟨rfl, hsz, hP, hKN, hD0⟩ := hv
  have hx := B.exec
  have hb := B.bytes
  have hr := B.returns
  have hts := atoms_spec (ws := wq_k_X1_clear_v3) B.pre
  have hown : s.vm.findClass RX1 = some m.cls := findClass_of_methodNamed B.named
  have hlocks := B.notSynchronized
  have hK := hKN.1
  have hfix : CallFix p m c cX1_clear 1 s [.ref q3796].toArray wq_k_X1_clear_v3 RX1 := ⟨hx, hb, hml, hown, hts⟩
  have hi1 : ∀ w ∈ wsX10, w ∈ wq_k_X1_clear_v3 := (sb_c (sb_r sb_l))
  subst hsz
  have hD := hD0.self (sz := s.heap.size)
  generalize hAe : va_A (wc_k_X1_clear_v3 cyB cyI cyJ cyZ cyO q3796 q3815 q3816 q3817 q3818 u3826) s.heap.size = A at hD ⊢
  have hA : ∀ q : Nat, s.heap.size ≤ q → A q := fun q h => by rw [← hAe]; exact Or.inr h
  have hS : va_S A s.heap s.heap [] := va_S.rf
  have hl := lv_entry ([.ref q3796]) (n := 1) (Nat.le_of_ble_eq_true rfl)
  rw [lg_entry_eq]
  generalize (lg_sl ([.ref q3796]) ++ List.replicate (1 - (lg_sl ([.ref q3796])).length) Slot.unset).toArray = ls at hl ⊢
  have hl : lv_has ls 1 [(0, .ref q3796)] := hl
  refine lv_aload_n hx hb dX1_clear_0 rfl (lv_at hl 0 rfl) ?_
  refine va_get (D := (dC, dI)) (ci := 1) (v := .ref q3818) (C := RX1) (T := TX1) (N := 11) hx hb hts hi1 hown hK hP 0 rfl rfl 3 (by decide) (hts _ (ow_m (k := 0) rfl)) (fun _ h9 => h9) rfl dX1_clear_1 ?_
  refine gf_v (wr := [(q3796, .inr (1, [.ref q3815, .ref q3816, .ref q3817, .ref q3818, .int 0, .int 0, .int 0, .int 0, .int 0, .int 0, .int 0]))]) (va_runV (As := []) (rest := []) hfix (k_X0_clear_v3 l dC dI cyB cyI cyJ cyZ cyO q3818 u3826 _) (cwV 0 hts (gi_V (ow_m (k := 1) rfl) (ow_m (k := 2) rfl) (ow_m (k := 3) rfl) (ow_m (k := 4) rfl) (sb_c sb_l) gd_k_X0_clear_v3) rfl rfl rfl (by decide +kernel) ⟨Nat.le_of_ble_eq_true rfl, Nat.le_of_ble_eq_true rfl⟩) (g_preV hKN hP hD [1] rfl (by decide) 0 0 rfl rfl) rfl rfl hl.1 rfl (lv_room (Nat.le_of_ble_eq_true rfl)) dX1_clear_4 ⟨Nat.le_of_ble_eq_true rfl, Nat.le_of_ble_eq_true rfl⟩) hP hD hS hA [1] [0] rfl rfl (by decide) (by decide) (fun u3830 H locs qu3830 hP hD hS => ?_)
  have hP : va_P (dC, dI) vwCl [(q3796, .inr (1, [.ref q3815, .ref q3816, .ref q3817, .ref q3818, .int 0, .int 0, .int 0, .int 0, .int 0, .int 0, .int 0])), (q3818, .inr (0, [.ref (u3826 0), .ref (u3826 1), .ref (u3826 2), .int 0]))] H := hP
  have hD : va_D A [(q3796, .inr (1, [.ref q3815, .ref q3816, .ref q3817, .ref q3818, .int 0, .int 0, .int 0, .int 0, .int 0, .int 0, .int 0])), (q3818, .inr (0, [.ref (u3826 0), .ref (u3826 1), .ref (u3826 2), .int 0]))] := hD
  refine lv_aload_n hx hb dX1_clear_7 rfl (lv_at hl 0 rfl) ?_
  refine lv_iconst (v := 0) hx hb dX1_clear_8 (by decide) ?_
  refine va_put (D := (dC, dI)) (ci := 1) (v := .int 0) (ty := .int) (C := RX1) (T := TX1) (N := 11) hx hb hts hi1 tyX1 tyX1_ok nmX1 hown hK hP hD hS 0 rfl rfl 4 (by decide) (hts _ (ow_m (k := 5) rfl)) (fun _ h9 => h9) rfl (by decide +kernel) rfl rfl (Nat.le_of_ble_eq_true rfl) dX1_clear_9 (fun H locs hP hD hS => ?_)
  have hP : va_P (dC, dI) vwCl [(q3796, .inr (1, [.ref q3815, .ref q3816, .ref q3817, .ref q3818, .int 0, .int 0, .int 0, .int 0, .int 0, .int 0, .int 0])), (q3818, .inr (0, [.ref (u3826 0), .ref (u3826 1), .ref (u3826 2), .int 0]))] H := hP
  have hD : va_D A [(q3796, .inr (1, [.ref q3815, .ref q3816, .ref q3817, .ref q3818, .int 0, .int 0, .int 0, .int 0, .int 0, .int 0, .int 0])), (q3818, .inr (0, [.ref (u3826 0), .ref (u3826 1), .ref (u3826 2), .int 0]))] := hD
  refine lv_aload_n hx hb dX1_clear_12 rfl (lv_at hl 0 rfl) ?_
  refine lv_iconst (v := 0) hx hb dX1_clear_13 (by decide) ?_
  refine va_put (D := (dC, dI)) (ci := 1) (v := .int 0) (ty := .int) (C := RX1) (T := TX1) (N := 11) hx hb hts hi1 tyX1 tyX1_ok nmX1 hown hK hP hD hS 0 rfl rfl 5 (by decide) (hts _ (ow_m (k := 6) rfl)) (fun _ h9 => h9) rfl (by decide +kernel) rfl rfl (Nat.le_of_ble_eq_true rfl) dX1_clear_14 (fun H locs hP hD hS => ?_)
  have hP : va_P (dC, dI) vwCl [(q3796, .inr (1, [.ref q3815, .ref q3816, .ref q3817, .ref q3818, .int 0, .int 0, .int 0, .int 0, .int 0, .int 0, .int 0])), (q3818, .inr (0, [.ref (u3826 0), .ref (u3826 1), .ref (u3826 2), .int 0]))] H := hP
  have hD : va_D A [(q3796, .inr (1, [.ref q3815, .ref q3816, .ref q3817, .ref q3818, .int 0, .int 0, .int 0, .int 0, .int 0, .int 0, .int 0])), (q3818, .inr (0, [.ref (u3826 0), .ref (u3826 1), .ref (u3826 2), .int 0]))] := hD
  refine lv_aload_n hx hb dX1_clear_17 rfl (lv_at hl 0 rfl) ?_
  refine lv_iconst (v := 0) hx hb dX1_clear_18 (by decide) ?_
  refine va_put (D := (dC, dI)) (ci := 1) (v := .int 0) (ty := .int) (C := RX1) (T := TX1) (N := 11) hx hb hts hi1 tyX1 tyX1_ok nmX1 hown hK hP hD hS 0 rfl rfl 6 (by decide) (hts _ (ow_m (k := 7) rfl)) (fun _ h9 => h9) rfl (by decide +kernel) rfl rfl (Nat.le_of_ble_eq_true rfl) dX1_clear_19 (fun H locs hP hD hS => ?_)
  have hP : va_P (dC, dI) vwCl [(q3796, .inr (1, [.ref q3815, .ref q3816, .ref q3817, .ref q3818, .int 0, .int 0, .int 0, .int 0, .int 0, .int 0, .int 0])), (q3818, .inr (0, [.ref (u3826 0), .ref (u3826 1), .ref (u3826 2), .int 0]))] H := hP
  have hD : va_D A [(q3796, .inr (1, [.ref q3815, .ref q3816, .ref q3817, .ref q3818, .int 0, .int 0, .int 0, .int 0, .int 0, .int 0, .int 0])), (q3818, .inr (0, [.ref (u3826 0), .ref (u3826 1), .ref (u3826 2), .int 0]))] := hD
  refine lv_aload_n hx hb dX1_clear_22 rfl (lv_at hl 0 rfl) ?_
  refine lv_iconst (v := 0) hx hb dX1_clear_23 (by decide) ?_
  refine va_put (D := (dC, dI)) (ci := 1) (v := .int 0) (ty := .int) (C := RX1) (T := TX1) (N := 11) hx hb hts hi1 tyX1 tyX1_ok nmX1 hown hK hP hD hS 0 rfl rfl 7 (by decide) (hts _ (ow_m (k := 8) rfl)) (fun _ h9 => h9) rfl (by decide +kernel) rfl rfl (Nat.le_of_ble_eq_true rfl) dX1_clear_24 (fun H locs hP hD hS => ?_)
  have hP : va_P (dC, dI) vwCl [(q3796, .inr (1, [.ref q3815, .ref q3816, .ref q3817, .ref q3818, .int 0, .int 0, .int 0, .int 0, .int 0, .int 0, .int 0])), (q3818, .inr (0, [.ref (u3826 0), .ref (u3826 1), .ref (u3826 2), .int 0]))] H := hP
  have hD : va_D A [(q3796, .inr (1, [.ref q3815, .ref q3816, .ref q3817, .ref q3818, .int 0, .int 0, .int 0, .int 0, .int 0, .int 0, .int 0])), (q3818, .inr (0, [.ref (u3826 0), .ref (u3826 1), .ref (u3826 2), .int 0]))] := hD
  refine lv_aload_n hx hb dX1_clear_27 rfl (lv_at hl 0 rfl) ?_
  refine lv_iconst (v := 2) hx hb dX1_clear_28 (by decide) ?_
  refine va_put (D := (dC, dI)) (ci := 1) (v := .int 2) (ty := .int) (C := RX1) (T := TX1) (N := 11) hx hb hts hi1 tyX1 tyX1_ok nmX1 hown hK hP hD hS 0 rfl rfl 8 (by decide) (hts _ (ow_m (k := 9) rfl)) (fun _ h9 => h9) rfl (by decide +kernel) rfl rfl (Nat.le_of_ble_eq_true rfl) dX1_clear_29 (fun H locs hP hD hS => ?_)
  have hP : va_P (dC, dI) vwCl [(q3796, .inr (1, [.ref q3815, .ref q3816, .ref q3817, .ref q3818, .int 0, .int 0, .int 0, .int 0, .int 2, .int 0, .int 0])), (q3818, .inr (0, [.ref (u3826 0), .ref (u3826 1), .ref (u3826 2), .int 0]))] H := hP
  have hD : va_D A [(q3796, .inr (1, [.ref q3815, .ref q3816, .ref q3817, .ref q3818, .int 0, .int 0, .int 0, .int 0, .int 2, .int 0, .int 0])), (q3818, .inr (0, [.ref (u3826 0), .ref (u3826 1), .ref (u3826 2), .int 0]))] := hD
  refine lv_aload_n hx hb dX1_clear_32 rfl (lv_at hl 0 rfl) ?_
  refine lv_iconst (v := 0) hx hb dX1_clear_33 (by decide) ?_
  refine va_put (D := (dC, dI)) (ci := 1) (v := .int 0) (ty := .int) (C := RX1) (T := TX1) (N := 11) hx hb hts hi1 tyX1 tyX1_ok nmX1 hown hK hP hD hS 0 rfl rfl 9 (by decide) (hts _ (ow_m (k := 10) rfl)) (fun _ h9 => h9) rfl (by decide +kernel) rfl rfl (Nat.le_of_ble_eq_true rfl) dX1_clear_34 (fun H locs hP hD hS => ?_)
  have hP : va_P (dC, dI) vwCl [(q3796, .inr (1, [.ref q3815, .ref q3816, .ref q3817, .ref q3818, .int 0, .int 0, .int 0, .int 0, .int 2, .int 0, .int 0])), (q3818, .inr (0, [.ref (u3826 0), .ref (u3826 1), .ref (u3826 2), .int 0]))] H := hP
  have hD : va_D A [(q3796, .inr (1, [.ref q3815, .ref q3816, .ref q3817, .ref q3818, .int 0, .int 0, .int 0, .int 0, .int 2, .int 0, .int 0])), (q3818, .inr (0, [.ref (u3826 0), .ref (u3826 1), .ref (u3826 2), .int 0]))] := hD
  refine lv_aload_n hx hb dX1_clear_37 rfl (lv_at hl 0 rfl) ?_
  refine lv_iconst (v := 0) hx hb dX1_clear_38 (by decide) ?_
  refine va_put (D := (dC, dI)) (ci := 1) (v := .int 0) (ty := .int) (C := RX1) (T := TX1) (N := 11) hx hb hts hi1 tyX1 tyX1_ok nmX1 hown hK hP hD hS 0 rfl rfl 10 (by decide) (hts _ (ow_m (k := 11) rfl)) (fun _ h9 => h9) rfl (by decide +kernel) rfl rfl (Nat.le_of_ble_eq_true rfl) dX1_clear_39 (fun H locs hP hD hS => ?_)
  have hP : va_P (dC, dI) vwCl [(q3796, .inr (1, [.ref q3815, .ref q3816, .ref q3817, .ref q3818, .int 0, .int 0, .int 0, .int 0, .int 2, .int 0, .int 0])), (q3818, .inr (0, [.ref (u3826 0), .ref (u3826 1), .ref (u3826 2), .int 0]))] H := hP
  have hD : va_D A [(q3796, .inr (1, [.ref q3815, .ref q3816, .ref q3817, .ref q3818, .int 0, .int 0, .int 0, .int 0, .int 2, .int 0, .int 0])), (q3818, .inr (0, [.ref (u3826 0), .ref (u3826 1), .ref (u3826 2), .int 0]))] := hD
  exact W.vret hx hb hr (fun t ht hW => ⟨⟨(), rfl, trivial, cE.of ht hP hD [0, 1] (by decide) rfl⟩, hS.F ht⟩) hS.2.2 dX1_clear_42
