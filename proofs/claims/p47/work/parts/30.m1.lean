/-! the model's chain, in one row -/
abbrev mr (f : Nat → Int32) (k : Nat) : Int32 := f (1 + k)
abbrev mh (f : Nat → Int32) (k : Nat) : Int32 := f (7 + k)
abbrev mc (f : Nat → Int32) (k : Nat) : Int32 := f (15 + k)
def AI (f : Nat → Int32) : Prop := RI (f 0) (f 105) (mr f) (mh f) (mc f) ∧ (0 ≤ (f 105).toInt → 1 ≤ (f 0).toInt ∧ (f 0).toInt ≤ 5)
def AS (f : Nat → Int32) : Prop := In2 f 0 1 0 6 ∧ In2 f 1 7 0 7 ∧ In2 f 7 15 0 40 ∧ In2 f 15 23 0 40 ∧ In2 f 105 106 (-1) 7 ∧ In2 f 109 110 0 999 ∧ AI f
def WI (n : Int) (f : Nat → Int32) : Prop := ∀ i : Nat, (i : Int) < n → AS (fun k => f (520 * i + k))
theorem In2.sh {f : Nat → Int32} {a b c d : Nat} {lo hi : Int} (h : In2 f a b lo hi) (h0 : a ≤ c) (h1 : c + d ≤ b) : In2 (fun k => f (c + k)) 0 d lo hi := fun j _ hj => h (c + j) (by omega) (by omega)
/-- a place that the order does not look at -/
theorem AI.out {f : Nat → Int32} (h : AI f) (hr : In2 f 1 7 0 7) (hs : In2 f 0 1 0 6) {i x : Int32} {c : Int} (hc : i.toInt = c) (h0 : 23 ≤ c) (h1 : c ≠ 105) : AI (upd f i.toNatClampNeg x) := by
  have hi : i.toNatClampNeg = i.toInt.toNat := rfl
  have q : ∀ j : Nat, j < 23 ∨ j = 105 → upd f i.toNatClampNeg x j = f j := fun j hj => upd_ne (by rw [hi]; omega)
  unfold AI
  rw [q 0 (by omega), q 105 (by omega)]
  exact ⟨RI.cong h.1 (hr.sh (c := 1) (d := 6) (by omega) (by omega)) (hs 0 (by omega) (by omega)).2 (fun j hj => q _ (by omega)) (fun j hj => q _ (by omega)) (fun j hj => q _ (by omega)), h.2⟩
theorem AI.cong {f g : Nat → Int32} (h : AI f) (hr : In2 f 1 7 0 7) (hs : In2 f 0 1 0 6) (q : ∀ j : Nat, j < 106 → g j = f j) : AI g := by
  unfold AI
  rw [q 0 (by omega), q 105 (by omega)]
  exact ⟨RI.cong h.1 (hr.sh (c := 1) (d := 6) (by omega) (by omega)) (hs 0 (by omega) (by omega)).2 (fun j hj => q _ (by omega)) (fun j hj => q _ (by omega)) (fun j hj => q _ (by omega)), h.2⟩
theorem nn_add {i z : Int32} {k : Nat} (h : z.toInt = k + i.toInt) (h0 : 0 ≤ i.toInt) : z.toNatClampNeg = k + i.toNatClampNeg := by
  show z.toInt.toNat = k + i.toInt.toNat
  omega
theorem nn_ofn {z : Int32} {k : Nat} (h : z.toInt = k) : z.toNatClampNeg = k := by
  show z.toInt.toNat = k
  omega
theorem bm_and {x : Int32} (h : x.toInt ≠ 0) : (x &&& (x - 1)).toBitVec.toNat < x.toBitVec.toNat := by
  have h1 : x.toBitVec ≠ 0 := fun e => h (by
    have : x = 0 := Int32.toBitVec_inj.mp e
    rw [this]
    decide)
  have h2 : 0 < x.toBitVec.toNat := Nat.pos_of_ne_zero (fun e => h1 (BitVec.eq_of_toNat_eq e))
  rw [Int32.toBitVec_and, BitVec.toNat_and]
  refine Nat.lt_of_le_of_lt Nat.and_le_right ?_
  rw [Int32.toBitVec_sub]
  have h3 : (1 : Int32).toBitVec = 1#32 := rfl
  rw [h3, BitVec.toNat_sub]
  have h4 := x.toBitVec.isLt
  have h5 : (1#32 : BitVec 32).toNat = 1 := rfl
  rw [h5]
  omega
theorem ti_mulb {x y z : Int32} {B C : Nat} (e : z = x * y) (h0 : 0 ≤ x.toInt) (h1 : x.toInt ≤ B) (h2 : 0 ≤ y.toInt) (h3 : y.toInt ≤ C) (h : B * C ≤ 2147483647) : 0 ≤ z.toInt ∧ z.toInt ≤ (B * C : Nat) ∧ (1 ≤ x.toInt → 1 ≤ y.toInt → 1 ≤ z.toInt) := by
  have h4 : x.toInt * y.toInt ≤ (B : Int) * C := Int.mul_le_mul h1 h3 h2 (by omega)
  have h5 : 0 ≤ x.toInt * y.toInt := Int.mul_nonneg h0 h2
  have h6 : ((B * C : Nat) : Int) = (B : Int) * C := by simp
  have h7 : z.toInt = x.toInt * y.toInt := ti_mul e rfl rfl (by omega) (by omega)
  refine ⟨by omega, by omega, fun a b => ?_⟩
  have h8 : 1 * 1 ≤ x.toInt * y.toInt := Int.mul_le_mul a b (by omega) (by omega)
  omega
/-! codes that a pile can work off: how high it is ahead of each -/
def okc (c : Int32) (x y : Int) : Prop := (c.toInt = 126 → 1 ≤ x ∧ y = x) ∧ (97 ≤ c.toInt ∧ c.toInt ≤ 122 → y = x + 1) ∧ (c.toInt ≠ 126 → ¬ (97 ≤ c.toInt ∧ c.toInt ≤ 122) → 2 ≤ x ∧ y = x - 1) ∧ 0 ≤ x ∧ x ≤ 59
def PG (code : Nat → Int32) (a b : Nat) (n : Int) : Prop := ∃ h : Nat → Int, h a = 0 ∧ h b = n ∧ ∀ k : Nat, a ≤ k → k < b → okc (code k) (h k) (h (k + 1))
def CK (code rf rt : Nat → Int32) (b : Nat) : Prop := 0 ≤ (rf b).toInt ∧ (rf b).toInt ≤ (rt b).toInt ∧ (rt b).toInt ≤ 1120 ∧ ((rf b).toInt < (rt b).toInt → (560 * b : Int) ≤ (rf b).toInt ∧ (rt b).toInt ≤ 560 * b + 560) ∧ ∃ n : Int, PG code (rf b).toNatClampNeg (rt b).toNatClampNeg n
def CI (code rf rt : Nat → Int32) : Prop := CK code rf rt 0 ∧ CK code rf rt 1
theorem CI.at {code rf rt : Nat → Int32} (h : CI code rf rt) {b : Int32} (h0 : 0 ≤ b.toInt) (h1 : b.toInt ≤ 1) : CK code rf rt b.toNatClampNeg := by
  rcases (show b.toInt = 0 ∨ b.toInt = 1 by omega) with q | q
  · rw [nn_ofn (k := 0) (by omega)]; exact h.1
  · rw [nn_ofn (k := 1) (by omega)]; exact h.2
def wo_k_M_sign : List Cond := [.fieldLink RX7 119 "ReplicaChainModel" "size" "I", .fieldLink RX7 13 "ReplicaChainModel" "text" "[B"]
def wq_k_M_sign : List Cond := .code yX7_sign cX7_sign 2 (some .int) :: (wo_k_M_sign ++ (wsX70 ++ []))
theorem gd_k_M_sign : Gd wq_k_M_sign := gd_c (gd_a (gd_o (by decide +kernel)) (gd_a gd_u gd_0))
abbrev wc_k_M_sign (cyB cyI cyJ cyZ cyO : ClassId) (hM : Nat) (md : Nat → Nat) (m_text : Nat → Int32) (m_taped : Int32) (m_size : Int32) (m_faultKind : Int32) (m_faultPlace : Int32) (m_at : Int32) (m_end : Int32) (m_token : Int32) (m_number : Int32) (m_bank : Int32) (m_rb : Int32) (m_codes : Int32) (m_within : Int32) (m_piled : Int32) (m_unitsInRule : Int32) (m_askFrom : Int32) (m_askTo : Int32) (m_askWrite : Int32) (m_askUnder : Int32) (m_askBack : Int32) (m_thoughtSlow : Int32) (m_came : Int32) (m_acts : Int32) (m_undone : Int32) (m_laid : Int32) (m_seens : Int32) (m_time : Int32) (m_name : Int64) (x1 : Int32) : va_W := [(hM, .inr (7, [.ref (md 0), .ref (md 1), .int m_taped, .int m_size, .int m_faultKind, .int m_faultPlace, .int m_at, .int m_end, .int m_token, .int m_number, .long m_name, .ref (md 11), .ref (md 12), .ref (md 13), .ref (md 14), .ref (md 15), .ref (md 16), .ref (md 17), .ref (md 18), .ref (md 19), .ref (md 20), .ref (md 21), .ref (md 22), .ref (md 23), .ref (md 24), .ref (md 25), .ref (md 26), .ref (md 27), .ref (md 28), .int m_bank, .int m_rb, .int m_codes, .int m_within, .int m_piled, .int m_unitsInRule, .int m_askFrom, .int m_askTo, .int m_askWrite, .int m_askUnder, .int m_askBack, .ref (md 40), .ref (md 41), .int m_thoughtSlow, .int m_came, .ref (md 44), .int m_acts, .int m_undone, .ref (md 47), .ref (md 48), .int m_laid, .ref (md 50), .ref (md 51), .ref (md 52), .ref (md 53), .ref (md 54), .int m_seens, .int m_time, .ref (md 57), .ref (md 58)])), (md 1, .inl (cyB, 1600, .inl m_text))]
set_option maxHeartbeats 4000000 in
set_option maxRecDepth 100000 in
theorem k_M_sign (l : Launch) (dC : Nat → ClassId) (dI : Nat → Nat → Nat) (cyB cyI cyJ cyZ cyO : ClassId) (hM : Nat) (md : Nat → Nat) (m_text : Nat → Int32) (m_taped : Int32) (m_size : Int32) (m_faultKind : Int32) (m_faultPlace : Int32) (m_at : Int32) (m_end : Int32) (m_token : Int32) (m_number : Int32) (m_bank : Int32) (m_rb : Int32) (m_codes : Int32) (m_within : Int32) (m_piled : Int32) (m_unitsInRule : Int32) (m_askFrom : Int32) (m_askTo : Int32) (m_askWrite : Int32) (m_askUnder : Int32) (m_askBack : Int32) (m_thoughtSlow : Int32) (m_came : Int32) (m_acts : Int32) (m_undone : Int32) (m_laid : Int32) (m_seens : Int32) (m_time : Int32) (m_name : Int64) (x1 : Int32) (sz : Nat) (l_m_taped : 0 ≤ m_taped.toInt) (u_m_taped : m_taped.toInt ≤ 1600) (l_m_size : 0 ≤ m_size.toInt) (u_m_size : m_size.toInt ≤ 1600) (l_m_bank : 0 ≤ m_bank.toInt) (u_m_bank : m_bank.toInt ≤ 1) (l_m_rb : 0 ≤ m_rb.toInt) (u_m_rb : m_rb.toInt ≤ 1) (l_m_acts : 0 ≤ m_acts.toInt) (u_m_acts : m_acts.toInt ≤ 40) (l_m_undone : 0 ≤ m_undone.toInt) (u_m_undone : m_undone.toInt ≤ 40) (l_m_laid : 0 ≤ m_laid.toInt) (u_m_laid : m_laid.toInt ≤ 6) (l_m_seens : 0 ≤ m_seens.toInt) (u_m_seens : m_seens.toInt ≤ 30) (l_m_time : 0 ≤ m_time.toInt) (u_m_time : m_time.toInt ≤ 100000) (l_x1 : 0 ≤ x1.toInt) (u_x1 : x1.toInt ≤ 1600) : Met l yX7_sign wq_k_M_sign ({ frames := 0, cells := 0, slots := 0, locals := 0 }) (va_Pc [.ref hM, .int x1] (cB (dC, dI) (kT cyB cyI cyJ cyZ cyO) (wc_k_M_sign cyB cyI cyJ cyZ cyO hM md m_text m_taped m_size m_faultKind m_faultPlace m_at m_end m_token m_number m_bank m_rb m_codes m_within m_piled m_unitsInRule m_askFrom m_askTo m_askWrite m_askUnder m_askBack m_thoughtSlow m_came m_acts m_undone m_laid m_seens m_time m_name x1) sz)) (va_Qi (fun (r : Int32) (u : Unit) => (0 ≤ r.toInt) ∧ (r.toInt ≤ 255)) (fun (u : Unit) t => cE (dC, dI) (va_A (wc_k_M_sign cyB cyI cyJ cyZ cyO hM md m_text m_taped m_size m_faultKind m_faultPlace m_at m_end m_token m_number m_bank m_rb m_codes m_within m_piled m_unitsInRule m_askFrom m_askTo m_askWrite m_askUnder m_askBack m_thoughtSlow m_came m_acts m_undone m_laid m_seens m_time m_name x1) sz) ([(hM, .inr (7, [.ref (md 0), .ref (md 1), .int m_taped, .int m_size, .int m_faultKind, .int m_faultPlace, .int m_at, .int m_end, .int m_token, .int m_number, .long m_name, .ref (md 11), .ref (md 12), .ref (md 13), .ref (md 14), .ref (md 15), .ref (md 16), .ref (md 17), .ref (md 18), .ref (md 19), .ref (md 20), .ref (md 21), .ref (md 22), .ref (md 23), .ref (md 24), .ref (md 25), .ref (md 26), .ref (md 27), .ref (md 28), .int m_bank, .int m_rb, .int m_codes, .int m_within, .int m_piled, .int m_unitsInRule, .int m_askFrom, .int m_askTo, .int m_askWrite, .int m_askUnder, .int m_askBack, .ref (md 40), .ref (md 41), .int m_thoughtSlow, .int m_came, .ref (md 44), .int m_acts, .int m_undone, .ref (md 47), .ref (md 48), .int m_laid, .ref (md 50), .ref (md 51), .ref (md 52), .ref (md 53), .ref (md 54), .int m_seens, .int m_time, .ref (md 57), .ref (md 58)])), (md 1, .inl (cyB, 1600, .inl m_text))]) t.heap) (va_A (wc_k_M_sign cyB cyI cyJ cyZ cyO hM md m_text m_taped m_size m_faultKind m_faultPlace m_at m_end m_token m_number m_bank m_rb m_codes m_within m_piled m_unitsInRule m_askFrom m_askTo m_askWrite m_askUnder m_askBack m_thoughtSlow m_came m_acts m_undone m_laid m_seens m_time m_name x1) sz)) 0 0 (va_A (wc_k_M_sign cyB cyI cyJ cyZ cyO hM md m_text m_taped m_size m_faultKind m_faultPlace m_at m_end m_token m_number m_bank m_rb m_codes m_within m_piled m_unitsInRule m_askFrom m_askTo m_askWrite m_askUnder m_askBack m_thoughtSlow m_came m_acts m_undone m_laid m_seens m_time m_name x1) sz) := by
  refine Met.ofW (cc := cX7_sign) (maxL := 2) (ret := (some .int)) (by decide) rfl ?_
  intro p e s m args below meth c s₁ B hml hv
  obtain ⟨rfl, hsz, hP, hKN, hD0⟩ := hv
  have hx := B.exec
  have hb := B.bytes
  have hr := B.returns
  have hts := atoms_spec (ws := wq_k_M_sign) B.pre
  have hown : s.vm.findClass RX7 = some m.cls := findClass_of_methodNamed B.named
  have hlocks := B.notSynchronized
  have hK := hKN.1
  have hfix : CallFix p m c cX7_sign 2 s [.ref hM, .int x1].toArray wq_k_M_sign RX7 := ⟨hx, hb, hml, hown, hts⟩
  have hi7 : ∀ w ∈ wsX70, w ∈ wq_k_M_sign := (sb_c sb_l)
  subst hsz
  have hD := hD0.self (sz := s.heap.size)
  generalize hAe : va_A (wc_k_M_sign cyB cyI cyJ cyZ cyO hM md m_text m_taped m_size m_faultKind m_faultPlace m_at m_end m_token m_number m_bank m_rb m_codes m_within m_piled m_unitsInRule m_askFrom m_askTo m_askWrite m_askUnder m_askBack m_thoughtSlow m_came m_acts m_undone m_laid m_seens m_time m_name x1) s.heap.size = A at hD ⊢
  have hA : ∀ q : Nat, s.heap.size ≤ q → A q := fun q h => by rw [← hAe]; exact Or.inr h
  have hS : va_S A s.heap s.heap [] := va_S.rf
  have hl := lv_entry ([.ref hM, .int x1]) (n := 2) (Nat.le_of_ble_eq_true rfl)
  rw [lg_entry_eq]
  generalize (lg_sl ([.ref hM, .int x1]) ++ List.replicate (2 - (lg_sl ([.ref hM, .int x1])).length) Slot.unset).toArray = ls at hl ⊢
  have hl : lv_has ls 2 [(0, .ref hM), (1, .int x1)] := hl
  have ck0 : (0 : Int32).toInt = 0 := by decide
  refine lv_iload_n hx hb dX7_sign_0 rfl (lv_at hl 1 rfl) ?_
  refine lv_aload_n hx hb dX7_sign_1 rfl (lv_at hl 0 rfl) ?_
  refine va_get (D := (dC, dI)) (ci := 7) (v := .int m_size) (C := RX7) (T := TX7) (N := 59) hx hb hts hi7 hown hK hP 0 rfl rfl 3 (by decide) (hts _ (ow_m (k := 0) rfl)) (fun _ h9 => h9) rfl dX7_sign_2 ?_
  refine lv_icmp_ge (tgt := 21) hx hb dX7_sign_5 (by decide) (fun c13343 => ?_) (fun c13343 => ?_)
  · have c13343 := i_le (a := m_size.toInt) (b := x1.toInt) c13343 rfl rfl
    refine lv_iconst (v := 0) hx hb dX7_sign_21 (by decide) ?_
    have w13344 : 0 ≤ (0 : Int32).toInt := by first | omega | assumption | rfl
    have w13345 : (0 : Int32).toInt ≤ 255 := by first | omega | assumption | rfl
    exact W.iret (v := 0) hx hb hr (fun t ht hW => ⟨⟨0, (), rfl, ⟨w13344, w13345⟩, cE.of ht hP hD [0, 1] (by decide) rfl⟩, hS.F ht⟩) hS.2.2 dX7_sign_22
  · have c13343 := i_nle (a := m_size.toInt) (b := x1.toInt) c13343 rfl rfl
    refine lv_aload_n hx hb dX7_sign_8 rfl (lv_at hl 0 rfl) ?_
    refine va_get (D := (dC, dI)) (ci := 7) (v := .ref (md 1)) (C := RX7) (T := TX7) (N := 59) hx hb hts hi7 hown hK hP 0 rfl rfl 1 (by decide) (hts _ (ow_m (k := 1) rfl)) (fun _ h9 => h9) rfl dX7_sign_9 ?_
    refine lv_iload_n hx hb dX7_sign_12 rfl (lv_at hl 1 rfl) ?_
    refine va_bald hx hb hK hP 1 0 rfl rfl (vp_i rfl (by omega) (by omega)) dX7_sign_13 ?_
    refine lv_topi (fun z13346 ez13346 => ?_)
    refine lv_sipush (v := 255) hx hb dX7_sign_14 (by decide) ?_
    refine lv_iand hx hb dX7_sign_17 ?_
    refine lv_topi (fun z13347 ez13347 => ?_)
    have tz13347 := ti_and z13346 (m := 255) 8 ez13347 rfl (by decide)
    refine lv_goto (tgt := 22) hx hb dX7_sign_18 (by decide) ?_
    have w13348 : 0 ≤ z13347.toInt := by first | omega | assumption | rfl
    have w13349 : z13347.toInt ≤ 255 := by first | omega | assumption | rfl
    exact W.iret (v := z13347) hx hb hr (fun t ht hW => ⟨⟨z13347, (), rfl, ⟨w13348, w13349⟩, cE.of ht hP hD [0, 1] (by decide) rfl⟩, hS.F ht⟩) hS.2.2 dX7_sign_22
def wo_k_M_isLetter : List Cond := []
def wq_k_M_isLetter : List Cond := .code yX7_isLetter cX7_isLetter 1 (some .boolean) :: (wo_k_M_isLetter ++ [])
theorem gd_k_M_isLetter : Gd wq_k_M_isLetter := gd_c (gd_a (gd_o (by decide +kernel)) gd_0)
abbrev wc_k_M_isLetter (cyB cyI cyJ cyZ cyO : ClassId) (x0 : Int32) : va_W := []
set_option maxHeartbeats 4000000 in
set_option maxRecDepth 100000 in
theorem k_M_isLetter (l : Launch) (dC : Nat → ClassId) (dI : Nat → Nat → Nat) (cyB cyI cyJ cyZ cyO : ClassId) (x0 : Int32) (sz : Nat) : Met l yX7_isLetter wq_k_M_isLetter ({ frames := 0, cells := 0, slots := 0, locals := 0 }) (va_Pc [.int x0] (cB (dC, dI) (kT cyB cyI cyJ cyZ cyO) (wc_k_M_isLetter cyB cyI cyJ cyZ cyO x0) sz)) (va_Qi (fun (r : Int32) (u : Unit) => (((r = 1 ∧ (97 ≤ x0.toInt) ∧ (x0.toInt ≤ 122)) ∨ (r = 0 ∧ (¬ (97 ≤ x0.toInt ∧ x0.toInt ≤ 122)))))) (fun (u : Unit) t => cE (dC, dI) (va_A (wc_k_M_isLetter cyB cyI cyJ cyZ cyO x0) sz) ([]) t.heap) (va_A (wc_k_M_isLetter cyB cyI cyJ cyZ cyO x0) sz)) 0 0 (va_A (wc_k_M_isLetter cyB cyI cyJ cyZ cyO x0) sz) := by
  refine Met.ofW (cc := cX7_isLetter) (maxL := 1) (ret := (some .boolean)) (by decide) rfl ?_
  intro p e s m args below meth c s₁ B hml hv
  obtain ⟨rfl, hsz, hP, hKN, hD0⟩ := hv
  have hx := B.exec
  have hb := B.bytes
  have hr := B.returns
  have hts := atoms_spec (ws := wq_k_M_isLetter) B.pre
  have hown : s.vm.findClass RX7 = some m.cls := findClass_of_methodNamed B.named
  have hlocks := B.notSynchronized
  have hK := hKN.1
  have hfix : CallFix p m c cX7_isLetter 1 s [.int x0].toArray wq_k_M_isLetter RX7 := ⟨hx, hb, hml, hown, hts⟩
  subst hsz
  have hD := hD0.self (sz := s.heap.size)
  generalize hAe : va_A (wc_k_M_isLetter cyB cyI cyJ cyZ cyO x0) s.heap.size = A at hD ⊢
  have hA : ∀ q : Nat, s.heap.size ≤ q → A q := fun q h => by rw [← hAe]; exact Or.inr h
  have hS : va_S A s.heap s.heap [] := va_S.rf
  have hl := lv_entry ([.int x0]) (n := 1) (Nat.le_of_ble_eq_true rfl)
  rw [lg_entry_eq]
  generalize (lg_sl ([.int x0]) ++ List.replicate (1 - (lg_sl ([.int x0])).length) Slot.unset).toArray = ls at hl ⊢
  have hl : lv_has ls 1 [(0, .int x0)] := hl
  refine lv_iload_n hx hb dX7_isLetter_0 rfl (lv_at hl 0 rfl) ?_
  refine lv_bipush (v := 97) hx hb dX7_isLetter_1 (by decide) ?_
  refine lv_icmp_lt (tgt := 16) hx hb dX7_isLetter_3 (by decide) (fun c13352 => ?_) (fun c13352 => ?_)
  · have c13352 := i_lt (a := x0.toInt) (b := 97) c13352 rfl (by decide)
    refine lv_iconst (v := 0) hx hb dX7_isLetter_16 (by decide) ?_
    have w13353 : ¬ (97 ≤ x0.toInt ∧ x0.toInt ≤ 122) := by first | omega | assumption | rfl
    exact W.zret (v := 0) hx hb hr (by decide) (fun t ht hW => ⟨⟨0, (), rfl, (Or.inr ⟨rfl, w13353⟩), cE.of ht hP hD [] (by decide) rfl⟩, hS.F ht⟩) hS.2.2 dX7_isLetter_17
  · have c13352 := i_nlt (a := x0.toInt) (b := 97) c13352 rfl (by decide)
    refine lv_iload_n hx hb dX7_isLetter_6 rfl (lv_at hl 0 rfl) ?_
    refine lv_bipush (v := 122) hx hb dX7_isLetter_7 (by decide) ?_
    refine lv_icmp_gt (tgt := 16) hx hb dX7_isLetter_9 (by decide) (fun c13354 => ?_) (fun c13354 => ?_)
    · have c13354 := i_lt (a := 122) (b := x0.toInt) c13354 (by decide) rfl
      refine lv_iconst (v := 0) hx hb dX7_isLetter_16 (by decide) ?_
      have w13355 : ¬ (97 ≤ x0.toInt ∧ x0.toInt ≤ 122) := by first | omega | assumption | rfl
      exact W.zret (v := 0) hx hb hr (by decide) (fun t ht hW => ⟨⟨0, (), rfl, (Or.inr ⟨rfl, w13355⟩), cE.of ht hP hD [] (by decide) rfl⟩, hS.F ht⟩) hS.2.2 dX7_isLetter_17
    · have c13354 := i_nlt (a := 122) (b := x0.toInt) c13354 (by decide) rfl
      refine lv_iconst (v := 1) hx hb dX7_isLetter_12 (by decide) ?_
      refine lv_goto (tgt := 17) hx hb dX7_isLetter_13 (by decide) ?_
      have w13356 : 97 ≤ x0.toInt := by first | omega | assumption | rfl
      have w13357 : x0.toInt ≤ 122 := by first | omega | assumption | rfl
      exact W.zret (v := 1) hx hb hr (by decide) (fun t ht hW => ⟨⟨1, (), rfl, (Or.inl ⟨rfl, w13356, w13357⟩), cE.of ht hP hD [] (by decide) rfl⟩, hS.F ht⟩) hS.2.2 dX7_isLetter_17
def wo_k_M_isDigit : List Cond := []
def wq_k_M_isDigit : List Cond := .code yX7_isDigit cX7_isDigit 1 (some .boolean) :: (wo_k_M_isDigit ++ [])
theorem gd_k_M_isDigit : Gd wq_k_M_isDigit := gd_c (gd_a (gd_o (by decide +kernel)) gd_0)
abbrev wc_k_M_isDigit (cyB cyI cyJ cyZ cyO : ClassId) (x0 : Int32) : va_W := []
set_option maxHeartbeats 4000000 in
set_option maxRecDepth 100000 in
theorem k_M_isDigit (l : Launch) (dC : Nat → ClassId) (dI : Nat → Nat → Nat) (cyB cyI cyJ cyZ cyO : ClassId) (x0 : Int32) (sz : Nat) : Met l yX7_isDigit wq_k_M_isDigit ({ frames := 0, cells := 0, slots := 0, locals := 0 }) (va_Pc [.int x0] (cB (dC, dI) (kT cyB cyI cyJ cyZ cyO) (wc_k_M_isDigit cyB cyI cyJ cyZ cyO x0) sz)) (va_Qi (fun (r : Int32) (u : Unit) => (0 ≤ r.toInt) ∧ (r.toInt ≤ 1)) (fun (u : Unit) t => cE (dC, dI) (va_A (wc_k_M_isDigit cyB cyI cyJ cyZ cyO x0) sz) ([]) t.heap) (va_A (wc_k_M_isDigit cyB cyI cyJ cyZ cyO x0) sz)) 0 0 (va_A (wc_k_M_isDigit cyB cyI cyJ cyZ cyO x0) sz) := by
  refine Met.ofW (cc := cX7_isDigit) (maxL := 1) (ret := (some .boolean)) (by decide) rfl ?_
  intro p e s m args below meth c s₁ B hml hv
  obtain ⟨rfl, hsz, hP, hKN, hD0⟩ := hv
  have hx := B.exec
  have hb := B.bytes
  have hr := B.returns
  have hts := atoms_spec (ws := wq_k_M_isDigit) B.pre
  have hown : s.vm.findClass RX7 = some m.cls := findClass_of_methodNamed B.named
  have hlocks := B.notSynchronized
  have hK := hKN.1
  have hfix : CallFix p m c cX7_isDigit 1 s [.int x0].toArray wq_k_M_isDigit RX7 := ⟨hx, hb, hml, hown, hts⟩
  subst hsz
  have hD := hD0.self (sz := s.heap.size)
  generalize hAe : va_A (wc_k_M_isDigit cyB cyI cyJ cyZ cyO x0) s.heap.size = A at hD ⊢
  have hA : ∀ q : Nat, s.heap.size ≤ q → A q := fun q h => by rw [← hAe]; exact Or.inr h
  have hS : va_S A s.heap s.heap [] := va_S.rf
  have hl := lv_entry ([.int x0]) (n := 1) (Nat.le_of_ble_eq_true rfl)
  rw [lg_entry_eq]
  generalize (lg_sl ([.int x0]) ++ List.replicate (1 - (lg_sl ([.int x0])).length) Slot.unset).toArray = ls at hl ⊢
  have hl : lv_has ls 1 [(0, .int x0)] := hl
  have ck0 : (0 : Int32).toInt = 0 := by decide
  have ck1 : (1 : Int32).toInt = 1 := by decide
  refine lv_iload_n hx hb dX7_isDigit_0 rfl (lv_at hl 0 rfl) ?_
  refine lv_bipush (v := 48) hx hb dX7_isDigit_1 (by decide) ?_
  refine lv_icmp_lt (tgt := 16) hx hb dX7_isDigit_3 (by decide) (fun c13360 => ?_) (fun c13360 => ?_)
  · have c13360 := i_lt (a := x0.toInt) (b := 48) c13360 rfl (by decide)
    refine lv_iconst (v := 0) hx hb dX7_isDigit_16 (by decide) ?_
    have w13361 : 0 ≤ (0 : Int32).toInt := by first | omega | assumption | rfl
    have w13362 : (0 : Int32).toInt ≤ 1 := by first | omega | assumption | rfl
    exact W.zret (v := 0) hx hb hr (by decide) (fun t ht hW => ⟨⟨0, (), rfl, ⟨w13361, w13362⟩, cE.of ht hP hD [] (by decide) rfl⟩, hS.F ht⟩) hS.2.2 dX7_isDigit_17
  · have c13360 := i_nlt (a := x0.toInt) (b := 48) c13360 rfl (by decide)
    refine lv_iload_n hx hb dX7_isDigit_6 rfl (lv_at hl 0 rfl) ?_
    refine lv_bipush (v := 57) hx hb dX7_isDigit_7 (by decide) ?_
    refine lv_icmp_gt (tgt := 16) hx hb dX7_isDigit_9 (by decide) (fun c13363 => ?_) (fun c13363 => ?_)
    · have c13363 := i_lt (a := 57) (b := x0.toInt) c13363 (by decide) rfl
      refine lv_iconst (v := 0) hx hb dX7_isDigit_16 (by decide) ?_
      have w13364 : 0 ≤ (0 : Int32).toInt := by first | omega | assumption | rfl
      have w13365 : (0 : Int32).toInt ≤ 1 := by first | omega | assumption | rfl
      exact W.zret (v := 0) hx hb hr (by decide) (fun t ht hW => ⟨⟨0, (), rfl, ⟨w13364, w13365⟩, cE.of ht hP hD [] (by decide) rfl⟩, hS.F ht⟩) hS.2.2 dX7_isDigit_17
    · have c13363 := i_nlt (a := 57) (b := x0.toInt) c13363 (by decide) rfl
      refine lv_iconst (v := 1) hx hb dX7_isDigit_12 (by decide) ?_
      refine lv_goto (tgt := 17) hx hb dX7_isDigit_13 (by decide) ?_
      have w13366 : 0 ≤ (1 : Int32).toInt := by first | omega | assumption | rfl
      have w13367 : (1 : Int32).toInt ≤ 1 := by first | omega | assumption | rfl
      exact W.zret (v := 1) hx hb hr (by decide) (fun t ht hW => ⟨⟨1, (), rfl, ⟨w13366, w13367⟩, cE.of ht hP hD [] (by decide) rfl⟩, hS.F ht⟩) hS.2.2 dX7_isDigit_17
def wo_k_M_fails : List Cond := [.fieldLink RX7 122 "ReplicaChainModel" "faultKind" "I", .fieldLink RX7 16 "ReplicaChainModel" "faultPlace" "I"]
def wq_k_M_fails : List Cond := .code yX7_fails cX7_fails 3 none :: (wo_k_M_fails ++ (wsX70 ++ []))
theorem gd_k_M_fails : Gd wq_k_M_fails := gd_c (gd_a (gd_o (by decide +kernel)) (gd_a gd_u gd_0))
abbrev wc_k_M_fails (cyB cyI cyJ cyZ cyO : ClassId) (hM : Nat) (md : Nat → Nat) (m_taped : Int32) (m_size : Int32) (m_faultKind : Int32) (m_faultPlace : Int32) (m_at : Int32) (m_end : Int32) (m_token : Int32) (m_number : Int32) (m_bank : Int32) (m_rb : Int32) (m_codes : Int32) (m_within : Int32) (m_piled : Int32) (m_unitsInRule : Int32) (m_askFrom : Int32) (m_askTo : Int32) (m_askWrite : Int32) (m_askUnder : Int32) (m_askBack : Int32) (m_thoughtSlow : Int32) (m_came : Int32) (m_acts : Int32) (m_undone : Int32) (m_laid : Int32) (m_seens : Int32) (m_time : Int32) (m_name : Int64) (x1 : Int32) (x2 : Int32) : va_W := [(hM, .inr (7, [.ref (md 0), .ref (md 1), .int m_taped, .int m_size, .int m_faultKind, .int m_faultPlace, .int m_at, .int m_end, .int m_token, .int m_number, .long m_name, .ref (md 11), .ref (md 12), .ref (md 13), .ref (md 14), .ref (md 15), .ref (md 16), .ref (md 17), .ref (md 18), .ref (md 19), .ref (md 20), .ref (md 21), .ref (md 22), .ref (md 23), .ref (md 24), .ref (md 25), .ref (md 26), .ref (md 27), .ref (md 28), .int m_bank, .int m_rb, .int m_codes, .int m_within, .int m_piled, .int m_unitsInRule, .int m_askFrom, .int m_askTo, .int m_askWrite, .int m_askUnder, .int m_askBack, .ref (md 40), .ref (md 41), .int m_thoughtSlow, .int m_came, .ref (md 44), .int m_acts, .int m_undone, .ref (md 47), .ref (md 48), .int m_laid, .ref (md 50), .ref (md 51), .ref (md 52), .ref (md 53), .ref (md 54), .int m_seens, .int m_time, .ref (md 57), .ref (md 58)]))]
set_option maxHeartbeats 4000000 in
set_option maxRecDepth 100000 in
theorem k_M_fails (l : Launch) (dC : Nat → ClassId) (dI : Nat → Nat → Nat) (cyB cyI cyJ cyZ cyO : ClassId) (hM : Nat) (md : Nat → Nat) (m_taped : Int32) (m_size : Int32) (m_faultKind : Int32) (m_faultPlace : Int32) (m_at : Int32) (m_end : Int32) (m_token : Int32) (m_number : Int32) (m_bank : Int32) (m_rb : Int32) (m_codes : Int32) (m_within : Int32) (m_piled : Int32) (m_unitsInRule : Int32) (m_askFrom : Int32) (m_askTo : Int32) (m_askWrite : Int32) (m_askUnder : Int32) (m_askBack : Int32) (m_thoughtSlow : Int32) (m_came : Int32) (m_acts : Int32) (m_undone : Int32) (m_laid : Int32) (m_seens : Int32) (m_time : Int32) (m_name : Int64) (x1 : Int32) (x2 : Int32) (sz : Nat) (l_m_taped : 0 ≤ m_taped.toInt) (u_m_taped : m_taped.toInt ≤ 1600) (l_m_size : 0 ≤ m_size.toInt) (u_m_size : m_size.toInt ≤ 1600) (l_m_bank : 0 ≤ m_bank.toInt) (u_m_bank : m_bank.toInt ≤ 1) (l_m_rb : 0 ≤ m_rb.toInt) (u_m_rb : m_rb.toInt ≤ 1) (l_m_acts : 0 ≤ m_acts.toInt) (u_m_acts : m_acts.toInt ≤ 40) (l_m_undone : 0 ≤ m_undone.toInt) (u_m_undone : m_undone.toInt ≤ 40) (l_m_laid : 0 ≤ m_laid.toInt) (u_m_laid : m_laid.toInt ≤ 6) (l_m_seens : 0 ≤ m_seens.toInt) (u_m_seens : m_seens.toInt ≤ 30) (l_m_time : 0 ≤ m_time.toInt) (u_m_time : m_time.toInt ≤ 100000) : Met l yX7_fails wq_k_M_fails ({ frames := 0, cells := 0, slots := 0, locals := 0 }) (va_Pc [.ref hM, .int x1, .int x2] (cB (dC, dI) (kT cyB cyI cyJ cyZ cyO) (wc_k_M_fails cyB cyI cyJ cyZ cyO hM md m_taped m_size m_faultKind m_faultPlace m_at m_end m_token m_number m_bank m_rb m_codes m_within m_piled m_unitsInRule m_askFrom m_askTo m_askWrite m_askUnder m_askBack m_thoughtSlow m_came m_acts m_undone m_laid m_seens m_time m_name x1 x2) sz)) (va_Qv (fun (u : ST4) => True) (fun (u : ST4) t => cE (dC, dI) (va_A (wc_k_M_fails cyB cyI cyJ cyZ cyO hM md m_taped m_size m_faultKind m_faultPlace m_at m_end m_token m_number m_bank m_rb m_codes m_within m_piled m_unitsInRule m_askFrom m_askTo m_askWrite m_askUnder m_askBack m_thoughtSlow m_came m_acts m_undone m_laid m_seens m_time m_name x1 x2) sz) ([(hM, .inr (7, [.ref (md 0), .ref (md 1), .int m_taped, .int m_size, .int (u.2.1 0), .int (u.2.1 1), .int m_at, .int m_end, .int m_token, .int m_number, .long m_name, .ref (md 11), .ref (md 12), .ref (md 13), .ref (md 14), .ref (md 15), .ref (md 16), .ref (md 17), .ref (md 18), .ref (md 19), .ref (md 20), .ref (md 21), .ref (md 22), .ref (md 23), .ref (md 24), .ref (md 25), .ref (md 26), .ref (md 27), .ref (md 28), .int m_bank, .int m_rb, .int m_codes, .int m_within, .int m_piled, .int m_unitsInRule, .int m_askFrom, .int m_askTo, .int m_askWrite, .int m_askUnder, .int m_askBack, .ref (md 40), .ref (md 41), .int m_thoughtSlow, .int m_came, .ref (md 44), .int m_acts, .int m_undone, .ref (md 47), .ref (md 48), .int m_laid, .ref (md 50), .ref (md 51), .ref (md 52), .ref (md 53), .ref (md 54), .int m_seens, .int m_time, .ref (md 57), .ref (md 58)]))]) t.heap) (va_A (wc_k_M_fails cyB cyI cyJ cyZ cyO hM md m_taped m_size m_faultKind m_faultPlace m_at m_end m_token m_number m_bank m_rb m_codes m_within m_piled m_unitsInRule m_askFrom m_askTo m_askWrite m_askUnder m_askBack m_thoughtSlow m_came m_acts m_undone m_laid m_seens m_time m_name x1 x2) sz)) 0 0 (va_A (wc_k_M_fails cyB cyI cyJ cyZ cyO hM md m_taped m_size m_faultKind m_faultPlace m_at m_end m_token m_number m_bank m_rb m_codes m_within m_piled m_unitsInRule m_askFrom m_askTo m_askWrite m_askUnder m_askBack m_thoughtSlow m_came m_acts m_undone m_laid m_seens m_time m_name x1 x2) sz) := by
  refine Met.ofW (cc := cX7_fails) (maxL := 3) (ret := none) (by decide) rfl ?_
  intro p e s m args below meth c s₁ B hml hv
  obtain ⟨rfl, hsz, hP, hKN, hD0⟩ := hv
  have hx := B.exec
  have hb := B.bytes
  have hr := B.returns
  have hts := atoms_spec (ws := wq_k_M_fails) B.pre
  have hown : s.vm.findClass RX7 = some m.cls := findClass_of_methodNamed B.named
  have hlocks := B.notSynchronized
  have hK := hKN.1
  have hfix : CallFix p m c cX7_fails 3 s [.ref hM, .int x1, .int x2].toArray wq_k_M_fails RX7 := ⟨hx, hb, hml, hown, hts⟩
  have hi7 : ∀ w ∈ wsX70, w ∈ wq_k_M_fails := (sb_c sb_l)
  subst hsz
  have hD := hD0.self (sz := s.heap.size)
  generalize hAe : va_A (wc_k_M_fails cyB cyI cyJ cyZ cyO hM md m_taped m_size m_faultKind m_faultPlace m_at m_end m_token m_number m_bank m_rb m_codes m_within m_piled m_unitsInRule m_askFrom m_askTo m_askWrite m_askUnder m_askBack m_thoughtSlow m_came m_acts m_undone m_laid m_seens m_time m_name x1 x2) s.heap.size = A at hD ⊢
  have hA : ∀ q : Nat, s.heap.size ≤ q → A q := fun q h => by rw [← hAe]; exact Or.inr h
  have hS : va_S A s.heap s.heap [] := va_S.rf
  have hl := lv_entry ([.ref hM, .int x1, .int x2]) (n := 3) (Nat.le_of_ble_eq_true rfl)
  rw [lg_entry_eq]
  generalize (lg_sl ([.ref hM, .int x1, .int x2]) ++ List.replicate (3 - (lg_sl ([.ref hM, .int x1, .int x2])).length) Slot.unset).toArray = ls at hl ⊢
  have hl : lv_has ls 3 [(0, .ref hM), (1, .int x1), (2, .int x2)] := hl
  refine lv_aload_n hx hb dX7_fails_0 rfl (lv_at hl 0 rfl) ?_
  refine va_get (D := (dC, dI)) (ci := 7) (v := .int m_faultKind) (C := RX7) (T := TX7) (N := 59) hx hb hts hi7 hown hK hP 0 rfl rfl 4 (by decide) (hts _ (ow_m (k := 0) rfl)) (fun _ h9 => h9) rfl dX7_fails_1 ?_
  refine lv_if_le (tgt := 8) hx hb dX7_fails_4 (by decide) (fun c13370 => ?_) (fun c13370 => ?_)
  · have c13370 := i_le (a := m_faultKind.toInt) (b := 0) c13370 rfl (by decide)
    refine lv_aload_n hx hb dX7_fails_8 rfl (lv_at hl 0 rfl) ?_
    refine lv_iload_n hx hb dX7_fails_9 rfl (lv_at hl 1 rfl) ?_
    refine va_put (D := (dC, dI)) (ci := 7) (v := .int x1) (ty := .int) (C := RX7) (T := TX7) (N := 59) hx hb hts hi7 tyX7 tyX7_ok nmX7 hown hK hP hD hS 0 rfl rfl 4 (by decide) (hts _ (ow_m (k := 0) rfl)) (fun _ h9 => h9) rfl (by decide +kernel) rfl rfl (Nat.le_of_ble_eq_true rfl) dX7_fails_10 (fun H locs hP hD hS => ?_)
    have hP : va_P (dC, dI) vwCl [(hM, .inr (7, [.ref (md 0), .ref (md 1), .int m_taped, .int m_size, .int x1, .int m_faultPlace, .int m_at, .int m_end, .int m_token, .int m_number, .long m_name, .ref (md 11), .ref (md 12), .ref (md 13), .ref (md 14), .ref (md 15), .ref (md 16), .ref (md 17), .ref (md 18), .ref (md 19), .ref (md 20), .ref (md 21), .ref (md 22), .ref (md 23), .ref (md 24), .ref (md 25), .ref (md 26), .ref (md 27), .ref (md 28), .int m_bank, .int m_rb, .int m_codes, .int m_within, .int m_piled, .int m_unitsInRule, .int m_askFrom, .int m_askTo, .int m_askWrite, .int m_askUnder, .int m_askBack, .ref (md 40), .ref (md 41), .int m_thoughtSlow, .int m_came, .ref (md 44), .int m_acts, .int m_undone, .ref (md 47), .ref (md 48), .int m_laid, .ref (md 50), .ref (md 51), .ref (md 52), .ref (md 53), .ref (md 54), .int m_seens, .int m_time, .ref (md 57), .ref (md 58)]))] H := hP
    have hD : va_D A [(hM, .inr (7, [.ref (md 0), .ref (md 1), .int m_taped, .int m_size, .int x1, .int m_faultPlace, .int m_at, .int m_end, .int m_token, .int m_number, .long m_name, .ref (md 11), .ref (md 12), .ref (md 13), .ref (md 14), .ref (md 15), .ref (md 16), .ref (md 17), .ref (md 18), .ref (md 19), .ref (md 20), .ref (md 21), .ref (md 22), .ref (md 23), .ref (md 24), .ref (md 25), .ref (md 26), .ref (md 27), .ref (md 28), .int m_bank, .int m_rb, .int m_codes, .int m_within, .int m_piled, .int m_unitsInRule, .int m_askFrom, .int m_askTo, .int m_askWrite, .int m_askUnder, .int m_askBack, .ref (md 40), .ref (md 41), .int m_thoughtSlow, .int m_came, .ref (md 44), .int m_acts, .int m_undone, .ref (md 47), .ref (md 48), .int m_laid, .ref (md 50), .ref (md 51), .ref (md 52), .ref (md 53), .ref (md 54), .int m_seens, .int m_time, .ref (md 57), .ref (md 58)]))] := hD
    refine lv_aload_n hx hb dX7_fails_13 rfl (lv_at hl 0 rfl) ?_
    refine lv_iload_n hx hb dX7_fails_14 rfl (lv_at hl 2 rfl) ?_
    refine va_put (D := (dC, dI)) (ci := 7) (v := .int x2) (ty := .int) (C := RX7) (T := TX7) (N := 59) hx hb hts hi7 tyX7 tyX7_ok nmX7 hown hK hP hD hS 0 rfl rfl 5 (by decide) (hts _ (ow_m (k := 1) rfl)) (fun _ h9 => h9) rfl (by decide +kernel) rfl rfl (Nat.le_of_ble_eq_true rfl) dX7_fails_15 (fun H locs hP hD hS => ?_)
    have hP : va_P (dC, dI) vwCl [(hM, .inr (7, [.ref (md 0), .ref (md 1), .int m_taped, .int m_size, .int x1, .int x2, .int m_at, .int m_end, .int m_token, .int m_number, .long m_name, .ref (md 11), .ref (md 12), .ref (md 13), .ref (md 14), .ref (md 15), .ref (md 16), .ref (md 17), .ref (md 18), .ref (md 19), .ref (md 20), .ref (md 21), .ref (md 22), .ref (md 23), .ref (md 24), .ref (md 25), .ref (md 26), .ref (md 27), .ref (md 28), .int m_bank, .int m_rb, .int m_codes, .int m_within, .int m_piled, .int m_unitsInRule, .int m_askFrom, .int m_askTo, .int m_askWrite, .int m_askUnder, .int m_askBack, .ref (md 40), .ref (md 41), .int m_thoughtSlow, .int m_came, .ref (md 44), .int m_acts, .int m_undone, .ref (md 47), .ref (md 48), .int m_laid, .ref (md 50), .ref (md 51), .ref (md 52), .ref (md 53), .ref (md 54), .int m_seens, .int m_time, .ref (md 57), .ref (md 58)]))] H := hP
    have hD : va_D A [(hM, .inr (7, [.ref (md 0), .ref (md 1), .int m_taped, .int m_size, .int x1, .int x2, .int m_at, .int m_end, .int m_token, .int m_number, .long m_name, .ref (md 11), .ref (md 12), .ref (md 13), .ref (md 14), .ref (md 15), .ref (md 16), .ref (md 17), .ref (md 18), .ref (md 19), .ref (md 20), .ref (md 21), .ref (md 22), .ref (md 23), .ref (md 24), .ref (md 25), .ref (md 26), .ref (md 27), .ref (md 28), .int m_bank, .int m_rb, .int m_codes, .int m_within, .int m_piled, .int m_unitsInRule, .int m_askFrom, .int m_askTo, .int m_askWrite, .int m_askUnder, .int m_askBack, .ref (md 40), .ref (md 41), .int m_thoughtSlow, .int m_came, .ref (md 44), .int m_acts, .int m_undone, .ref (md 47), .ref (md 48), .int m_laid, .ref (md 50), .ref (md 51), .ref (md 52), .ref (md 53), .ref (md 54), .int m_seens, .int m_time, .ref (md 57), .ref (md 58)]))] := hD
    exact W.vret hx hb hr (fun t ht hW => ⟨⟨((fun _ => fun _ => 0), (fun k => match k with | 0 => x1 | _ => x2), (fun _ => 0), (fun _ => fun _ => 0)), rfl, trivial, cE.of ht hP hD [0] (by decide) rfl⟩, hS.F ht⟩) hS.2.2 dX7_fails_18
  · have c13370 := i_nle (a := m_faultKind.toInt) (b := 0) c13370 rfl (by decide)
    exact W.vret hx hb hr (fun t ht hW => ⟨⟨((fun _ => fun _ => 0), (fun k => match k with | 0 => m_faultKind | _ => m_faultPlace), (fun _ => 0), (fun _ => fun _ => 0)), rfl, trivial, cE.of ht hP hD [0] (by decide) rfl⟩, hS.F ht⟩) hS.2.2 dX7_fails_7
def wo_k_M_isGood : List Cond := [.fieldLink RX7 122 "ReplicaChainModel" "faultKind" "I"]
def wq_k_M_isGood : List Cond := .code yX7_isGood cX7_isGood 1 (some .boolean) :: (wo_k_M_isGood ++ (wsX70 ++ []))
theorem gd_k_M_isGood : Gd wq_k_M_isGood := gd_c (gd_a (gd_o (by decide +kernel)) (gd_a gd_u gd_0))
abbrev wc_k_M_isGood (cyB cyI cyJ cyZ cyO : ClassId) (hM : Nat) (md : Nat → Nat) (m_taped : Int32) (m_size : Int32) (m_faultKind : Int32) (m_faultPlace : Int32) (m_at : Int32) (m_end : Int32) (m_token : Int32) (m_number : Int32) (m_bank : Int32) (m_rb : Int32) (m_codes : Int32) (m_within : Int32) (m_piled : Int32) (m_unitsInRule : Int32) (m_askFrom : Int32) (m_askTo : Int32) (m_askWrite : Int32) (m_askUnder : Int32) (m_askBack : Int32) (m_thoughtSlow : Int32) (m_came : Int32) (m_acts : Int32) (m_undone : Int32) (m_laid : Int32) (m_seens : Int32) (m_time : Int32) (m_name : Int64) : va_W := [(hM, .inr (7, [.ref (md 0), .ref (md 1), .int m_taped, .int m_size, .int m_faultKind, .int m_faultPlace, .int m_at, .int m_end, .int m_token, .int m_number, .long m_name, .ref (md 11), .ref (md 12), .ref (md 13), .ref (md 14), .ref (md 15), .ref (md 16), .ref (md 17), .ref (md 18), .ref (md 19), .ref (md 20), .ref (md 21), .ref (md 22), .ref (md 23), .ref (md 24), .ref (md 25), .ref (md 26), .ref (md 27), .ref (md 28), .int m_bank, .int m_rb, .int m_codes, .int m_within, .int m_piled, .int m_unitsInRule, .int m_askFrom, .int m_askTo, .int m_askWrite, .int m_askUnder, .int m_askBack, .ref (md 40), .ref (md 41), .int m_thoughtSlow, .int m_came, .ref (md 44), .int m_acts, .int m_undone, .ref (md 47), .ref (md 48), .int m_laid, .ref (md 50), .ref (md 51), .ref (md 52), .ref (md 53), .ref (md 54), .int m_seens, .int m_time, .ref (md 57), .ref (md 58)]))]
set_option maxHeartbeats 4000000 in
set_option maxRecDepth 100000 in
theorem k_M_isGood (l : Launch) (dC : Nat → ClassId) (dI : Nat → Nat → Nat) (cyB cyI cyJ cyZ cyO : ClassId) (hM : Nat) (md : Nat → Nat) (m_taped : Int32) (m_size : Int32) (m_faultKind : Int32) (m_faultPlace : Int32) (m_at : Int32) (m_end : Int32) (m_token : Int32) (m_number : Int32) (m_bank : Int32) (m_rb : Int32) (m_codes : Int32) (m_within : Int32) (m_piled : Int32) (m_unitsInRule : Int32) (m_askFrom : Int32) (m_askTo : Int32) (m_askWrite : Int32) (m_askUnder : Int32) (m_askBack : Int32) (m_thoughtSlow : Int32) (m_came : Int32) (m_acts : Int32) (m_undone : Int32) (m_laid : Int32) (m_seens : Int32) (m_time : Int32) (m_name : Int64) (sz : Nat) (l_m_taped : 0 ≤ m_taped.toInt) (u_m_taped : m_taped.toInt ≤ 1600) (l_m_size : 0 ≤ m_size.toInt) (u_m_size : m_size.toInt ≤ 1600) (l_m_bank : 0 ≤ m_bank.toInt) (u_m_bank : m_bank.toInt ≤ 1) (l_m_rb : 0 ≤ m_rb.toInt) (u_m_rb : m_rb.toInt ≤ 1) (l_m_acts : 0 ≤ m_acts.toInt) (u_m_acts : m_acts.toInt ≤ 40) (l_m_undone : 0 ≤ m_undone.toInt) (u_m_undone : m_undone.toInt ≤ 40) (l_m_laid : 0 ≤ m_laid.toInt) (u_m_laid : m_laid.toInt ≤ 6) (l_m_seens : 0 ≤ m_seens.toInt) (u_m_seens : m_seens.toInt ≤ 30) (l_m_time : 0 ≤ m_time.toInt) (u_m_time : m_time.toInt ≤ 100000) : Met l yX7_isGood wq_k_M_isGood ({ frames := 0, cells := 0, slots := 0, locals := 0 }) (va_Pc [.ref hM] (cB (dC, dI) (kT cyB cyI cyJ cyZ cyO) (wc_k_M_isGood cyB cyI cyJ cyZ cyO hM md m_taped m_size m_faultKind m_faultPlace m_at m_end m_token m_number m_bank m_rb m_codes m_within m_piled m_unitsInRule m_askFrom m_askTo m_askWrite m_askUnder m_askBack m_thoughtSlow m_came m_acts m_undone m_laid m_seens m_time m_name) sz)) (va_Qi (fun (r : Int32) (u : Unit) => (((r = 1 ∧ (m_faultKind.toInt = 0)) ∨ (r = 0 ∧ (m_faultKind.toInt ≠ 0))))) (fun (u : Unit) t => cE (dC, dI) (va_A (wc_k_M_isGood cyB cyI cyJ cyZ cyO hM md m_taped m_size m_faultKind m_faultPlace m_at m_end m_token m_number m_bank m_rb m_codes m_within m_piled m_unitsInRule m_askFrom m_askTo m_askWrite m_askUnder m_askBack m_thoughtSlow m_came m_acts m_undone m_laid m_seens m_time m_name) sz) ([(hM, .inr (7, [.ref (md 0), .ref (md 1), .int m_taped, .int m_size, .int m_faultKind, .int m_faultPlace, .int m_at, .int m_end, .int m_token, .int m_number, .long m_name, .ref (md 11), .ref (md 12), .ref (md 13), .ref (md 14), .ref (md 15), .ref (md 16), .ref (md 17), .ref (md 18), .ref (md 19), .ref (md 20), .ref (md 21), .ref (md 22), .ref (md 23), .ref (md 24), .ref (md 25), .ref (md 26), .ref (md 27), .ref (md 28), .int m_bank, .int m_rb, .int m_codes, .int m_within, .int m_piled, .int m_unitsInRule, .int m_askFrom, .int m_askTo, .int m_askWrite, .int m_askUnder, .int m_askBack, .ref (md 40), .ref (md 41), .int m_thoughtSlow, .int m_came, .ref (md 44), .int m_acts, .int m_undone, .ref (md 47), .ref (md 48), .int m_laid, .ref (md 50), .ref (md 51), .ref (md 52), .ref (md 53), .ref (md 54), .int m_seens, .int m_time, .ref (md 57), .ref (md 58)]))]) t.heap) (va_A (wc_k_M_isGood cyB cyI cyJ cyZ cyO hM md m_taped m_size m_faultKind m_faultPlace m_at m_end m_token m_number m_bank m_rb m_codes m_within m_piled m_unitsInRule m_askFrom m_askTo m_askWrite m_askUnder m_askBack m_thoughtSlow m_came m_acts m_undone m_laid m_seens m_time m_name) sz)) 0 0 (va_A (wc_k_M_isGood cyB cyI cyJ cyZ cyO hM md m_taped m_size m_faultKind m_faultPlace m_at m_end m_token m_number m_bank m_rb m_codes m_within m_piled m_unitsInRule m_askFrom m_askTo m_askWrite m_askUnder m_askBack m_thoughtSlow m_came m_acts m_undone m_laid m_seens m_time m_name) sz) := by
  refine Met.ofW (cc := cX7_isGood) (maxL := 1) (ret := (some .boolean)) (by decide) rfl ?_
  intro p e s m args below meth c s₁ B hml hv
  obtain ⟨rfl, hsz, hP, hKN, hD0⟩ := hv
  have hx := B.exec
  have hb := B.bytes
  have hr := B.returns
  have hts := atoms_spec (ws := wq_k_M_isGood) B.pre
  have hown : s.vm.findClass RX7 = some m.cls := findClass_of_methodNamed B.named
  have hlocks := B.notSynchronized
  have hK := hKN.1
  have hfix : CallFix p m c cX7_isGood 1 s [.ref hM].toArray wq_k_M_isGood RX7 := ⟨hx, hb, hml, hown, hts⟩
  have hi7 : ∀ w ∈ wsX70, w ∈ wq_k_M_isGood := (sb_c sb_l)
  subst hsz
  have hD := hD0.self (sz := s.heap.size)
  generalize hAe : va_A (wc_k_M_isGood cyB cyI cyJ cyZ cyO hM md m_taped m_size m_faultKind m_faultPlace m_at m_end m_token m_number m_bank m_rb m_codes m_within m_piled m_unitsInRule m_askFrom m_askTo m_askWrite m_askUnder m_askBack m_thoughtSlow m_came m_acts m_undone m_laid m_seens m_time m_name) s.heap.size = A at hD ⊢
  have hA : ∀ q : Nat, s.heap.size ≤ q → A q := fun q h => by rw [← hAe]; exact Or.inr h
  have hS : va_S A s.heap s.heap [] := va_S.rf
  have hl := lv_entry ([.ref hM]) (n := 1) (Nat.le_of_ble_eq_true rfl)
  rw [lg_entry_eq]
  generalize (lg_sl ([.ref hM]) ++ List.replicate (1 - (lg_sl ([.ref hM])).length) Slot.unset).toArray = ls at hl ⊢
  have hl : lv_has ls 1 [(0, .ref hM)] := hl
  refine lv_aload_n hx hb dX7_isGood_0 rfl (lv_at hl 0 rfl) ?_
  refine va_get (D := (dC, dI)) (ci := 7) (v := .int m_faultKind) (C := RX7) (T := TX7) (N := 59) hx hb hts hi7 hown hK hP 0 rfl rfl 4 (by decide) (hts _ (ow_m (k := 0) rfl)) (fun _ h9 => h9) rfl dX7_isGood_1 ?_
  refine lv_if_ne (tgt := 11) hx hb dX7_isGood_4 (by decide) (fun c13373 => ?_) (fun c13373 => ?_)
  · have c13373 := i_ne (a := m_faultKind.toInt) (b := 0) c13373 rfl (by decide)
    refine lv_iconst (v := 0) hx hb dX7_isGood_11 (by decide) ?_
    have w13374 : m_faultKind.toInt ≠ 0 := by first | omega | assumption | rfl
    exact W.zret (v := 0) hx hb hr (by decide) (fun t ht hW => ⟨⟨0, (), rfl, (Or.inr ⟨rfl, w13374⟩), cE.of ht hP hD [0] (by decide) rfl⟩, hS.F ht⟩) hS.2.2 dX7_isGood_12
  · have c13373 := i_eq (a := m_faultKind.toInt) (b := 0) c13373 rfl (by decide)
    refine lv_iconst (v := 1) hx hb dX7_isGood_7 (by decide) ?_
    refine lv_goto (tgt := 12) hx hb dX7_isGood_8 (by decide) ?_
    have w13375 : m_faultKind.toInt = 0 := by first | omega | assumption | rfl
    exact W.zret (v := 1) hx hb hr (by decide) (fun t ht hW => ⟨⟨1, (), rfl, (Or.inl ⟨rfl, w13375⟩), cE.of ht hP hD [0] (by decide) rfl⟩, hS.F ht⟩) hS.2.2 dX7_isGood_12
def wo_k_M_isKept : List Cond := [.constantLong RX7 125 (120282394289522), .constantLong RX7 141 (29807), .constantLong RX7 143 (513020621925), .constantLong RX7 145 (504363246962), .constantLong RX7 147 (1650549611), .constantLong RX7 149 (1953063787), .constantLong RX7 151 (28530), .constantLong RX7 153 (6385252), .constantLong RX7 155 (7237492), .constantLong RX7 127 (495806673509), .constantLong RX7 129 (7038329), .constantLong RX7 131 (1936486263), .constantLong RX7 133 (1668247673), .constantLong RX7 135 (1819243379), .constantLong RX7 137 (1685217655), .constantLong RX7 139 (1718775661)]
def wq_k_M_isKept : List Cond := .code yX7_isKept cX7_isKept 3 (some .boolean) :: (wo_k_M_isKept ++ [])
theorem gd_k_M_isKept : Gd wq_k_M_isKept := gd_c (gd_a (gd_o (by decide +kernel)) gd_0)
abbrev wc_k_M_isKept (cyB cyI cyJ cyZ cyO : ClassId) (x0 : Int64) : va_W := []
set_option maxHeartbeats 4000000 in
set_option maxRecDepth 100000 in
theorem k_M_isKept (l : Launch) (dC : Nat → ClassId) (dI : Nat → Nat → Nat) (cyB cyI cyJ cyZ cyO : ClassId) (x0 : Int64) (sz : Nat) : Met l yX7_isKept wq_k_M_isKept ({ frames := 0, cells := 0, slots := 0, locals := 0 }) (va_Pc [.long x0] (cB (dC, dI) (kT cyB cyI cyJ cyZ cyO) (wc_k_M_isKept cyB cyI cyJ cyZ cyO x0) sz)) (va_Qi (fun (r : Int32) (u : Unit) => (0 ≤ r.toInt) ∧ (r.toInt ≤ 1)) (fun (u : Unit) t => cE (dC, dI) (va_A (wc_k_M_isKept cyB cyI cyJ cyZ cyO x0) sz) ([]) t.heap) (va_A (wc_k_M_isKept cyB cyI cyJ cyZ cyO x0) sz)) 0 0 (va_A (wc_k_M_isKept cyB cyI cyJ cyZ cyO x0) sz) := by
  refine Met.ofW (cc := cX7_isKept) (maxL := 3) (ret := (some .boolean)) (by decide) rfl ?_
  intro p e s m args below meth c s₁ B hml hv
  obtain ⟨rfl, hsz, hP, hKN, hD0⟩ := hv
  have hx := B.exec
  have hb := B.bytes
  have hr := B.returns
  have hts := atoms_spec (ws := wq_k_M_isKept) B.pre
  have hown : s.vm.findClass RX7 = some m.cls := findClass_of_methodNamed B.named
  have hlocks := B.notSynchronized
  have hK := hKN.1
  have hfix : CallFix p m c cX7_isKept 3 s [.long x0].toArray wq_k_M_isKept RX7 := ⟨hx, hb, hml, hown, hts⟩
  subst hsz
  have hD := hD0.self (sz := s.heap.size)
  generalize hAe : va_A (wc_k_M_isKept cyB cyI cyJ cyZ cyO x0) s.heap.size = A at hD ⊢
  have hA : ∀ q : Nat, s.heap.size ≤ q → A q := fun q h => by rw [← hAe]; exact Or.inr h
  have hS : va_S A s.heap s.heap [] := va_S.rf
  have hl := lv_entry ([.long x0]) (n := 3) (Nat.le_of_ble_eq_true rfl)
  rw [lg_entry_eq]
  generalize (lg_sl ([.long x0]) ++ List.replicate (3 - (lg_sl ([.long x0])).length) Slot.unset).toArray = ls at hl ⊢
  have hl : lv_has ls 3 [(0, .long x0)] := hl
  have ck0 : (0 : Int32).toInt = 0 := by decide
  have ck1 : (1 : Int32).toInt = 1 := by decide
  refine lv_lload_n hx hb dX7_isKept_0 rfl (lv_at hl 0 rfl) ?_
  refine lv_ldc2 (v := 120282394289522) hx hb hown (hts _ (ow_m (k := 0) rfl)) dX7_isKept_1 ?_
  refine W.lcmp hx hb dX7_isKept_4 ?_
  refine lv_topi (fun z13483 ez13483 => ?_)
  refine w_cut (Hy := fun H locs g => ∃ (ls : Array Slot), g = F0 m 64 ls [] ∧ lv_has ls 3 [(0, .long x0)] ∧ va_P (dC, dI) vwCl [] H ∧ va_D A [] ∧ va_S A s.heap H locs) (fun hj13484 => ?_) ?_
  rotate_left
  · rintro H locs _ ⟨ls, rfl, hl, hP, hD, hS⟩
    refine lv_iconst (v := 1) hx hb dX7_isKept_64 (by decide) ?_
    refine lv_goto (tgt := 69) hx hb dX7_isKept_65 (by decide) ?_
    refine lv_istore_n (lv' := [(2, .int 1), (0, .long x0)]) hx hb dX7_isKept_69 rfl hl (by decide) rfl (fun ls hl => ?_)
    refine lv_iload_n hx hb dX7_isKept_70 rfl (lv_at hl 0 rfl) ?_
    refine w_cut (Hy := fun H locs g => ∃ (ls : Array Slot), g = F0 m 138 ls [] ∧ lv_has ls 3 [(2, .int 1), (0, .long x0)] ∧ va_P (dC, dI) vwCl [] H ∧ va_D A [] ∧ va_S A s.heap H locs) (fun hj13485 => ?_) ?_
    rotate_left
    · rintro H locs _ ⟨ls, rfl, hl, hP, hD, hS⟩
      refine lv_iconst (v := 1) hx hb dX7_isKept_138 (by decide) ?_
      refine lv_goto (tgt := 143) hx hb dX7_isKept_139 (by decide) ?_
      have w13486 : 0 ≤ (1 : Int32).toInt := by first | omega | assumption | rfl
      have w13487 : (1 : Int32).toInt ≤ 1 := by first | omega | assumption | rfl
      exact W.zret (v := 1) hx hb hr (by decide) (fun t ht hW => ⟨⟨1, (), rfl, ⟨w13486, w13487⟩, cE.of ht hP hD [] (by decide) rfl⟩, hS.F ht⟩) hS.2.2 dX7_isKept_143
    refine w_cut (Hy := fun H locs g => ∃ (v13489 : Int32) (ls : Array Slot), g = F0 m 143 ls [.int v13489] ∧ lv_has ls 3 [(2, .int 1), (0, .long x0)] ∧ va_P (dC, dI) vwCl [] H ∧ va_D A [] ∧ va_S A s.heap H locs ∧ (0 ≤ v13489.toInt) ∧ (v13489.toInt ≤ 0)) (fun hj13488 => ?_) ?_
    rotate_left
    · rintro H locs _ ⟨v13489, ls, rfl, hl, hP, hD, hS, b13490, b13491⟩
      have w13492 : 0 ≤ v13489.toInt := by first | omega | assumption | rfl
      have w13493 : v13489.toInt ≤ 1 := by first | omega | assumption | rfl
      exact W.zret (v := v13489) hx hb hr (nz v13489 (by omega) (by omega)) (fun t ht hW => ⟨⟨v13489, (), rfl, ⟨w13492, w13493⟩, cE.of ht hP hD [] (by decide) rfl⟩, hS.F ht⟩) hS.2.2 dX7_isKept_143
    refine lv_if_ne (tgt := 138) hx hb dX7_isKept_71 (by decide) (fun _ => ?_) (fun c13494 => absurd c13494 (by decide))
    have hl := lv_sub (l' := [(2, .int 1), (0, .long x0)]) hl [0, 1] rfl
    exact hj13485 _ _ _ ⟨ls, rfl, hl, hP, hD, hS⟩
  refine w_cut (Hy := fun H locs g => ∃ (v13496 : Int32) (ls : Array Slot), g = F0 m 69 ls [.int v13496] ∧ lv_has ls 3 [(0, .long x0)] ∧ va_P (dC, dI) vwCl [] H ∧ va_D A [] ∧ va_S A s.heap H locs ∧ (0 ≤ v13496.toInt) ∧ (v13496.toInt ≤ 0)) (fun hj13495 => ?_) ?_
  rotate_left
  · rintro H locs _ ⟨v13496, ls, rfl, hl, hP, hD, hS, b13497, b13498⟩
    refine lv_istore_n (lv' := [(2, .int v13496), (0, .long x0)]) hx hb dX7_isKept_69 rfl hl (by decide) rfl (fun ls hl => ?_)
    refine lv_iload_n hx hb dX7_isKept_70 rfl (lv_at hl 0 rfl) ?_
    refine w_cut (Hy := fun H locs g => ∃ (ls : Array Slot), g = F0 m 138 ls [] ∧ lv_has ls 3 [(2, .int v13496), (0, .long x0)] ∧ va_P (dC, dI) vwCl [] H ∧ va_D A [] ∧ va_S A s.heap H locs) (fun hj13499 => ?_) ?_
    rotate_left
    · rintro H locs _ ⟨ls, rfl, hl, hP, hD, hS⟩
      refine lv_iconst (v := 1) hx hb dX7_isKept_138 (by decide) ?_
      refine lv_goto (tgt := 143) hx hb dX7_isKept_139 (by decide) ?_
      have w13500 : 0 ≤ (1 : Int32).toInt := by first | omega | assumption | rfl
      have w13501 : (1 : Int32).toInt ≤ 1 := by first | omega | assumption | rfl
      exact W.zret (v := 1) hx hb hr (by decide) (fun t ht hW => ⟨⟨1, (), rfl, ⟨w13500, w13501⟩, cE.of ht hP hD [] (by decide) rfl⟩, hS.F ht⟩) hS.2.2 dX7_isKept_143
    refine w_cut (Hy := fun H locs g => ∃ (v13503 : Int32) (ls : Array Slot), g = F0 m 143 ls [.int v13503] ∧ lv_has ls 3 [(2, .int v13496), (0, .long x0)] ∧ va_P (dC, dI) vwCl [] H ∧ va_D A [] ∧ va_S A s.heap H locs ∧ (0 ≤ v13503.toInt) ∧ (v13503.toInt ≤ 0)) (fun hj13502 => ?_) ?_
    rotate_left
    · rintro H locs _ ⟨v13503, ls, rfl, hl, hP, hD, hS, b13504, b13505⟩
      have w13506 : 0 ≤ v13503.toInt := by first | omega | assumption | rfl
      have w13507 : v13503.toInt ≤ 1 := by first | omega | assumption | rfl
      exact W.zret (v := v13503) hx hb hr (nz v13503 (by omega) (by omega)) (fun t ht hW => ⟨⟨v13503, (), rfl, ⟨w13506, w13507⟩, cE.of ht hP hD [] (by decide) rfl⟩, hS.F ht⟩) hS.2.2 dX7_isKept_143
    refine lv_if_ne (tgt := 138) hx hb dX7_isKept_71 (by decide) (fun c13508 => ?_) (fun c13508 => ?_)
    · have c13508 := i_ne (a := v13496.toInt) (b := 0) c13508 rfl (by decide)
      exfalso; omega
    · have c13508 := i_eq (a := v13496.toInt) (b := 0) c13508 rfl (by decide)
      refine lv_lload_n hx hb dX7_isKept_74 rfl (lv_at hl 1 rfl) ?_
      refine lv_ldc2 (v := 29807) hx hb hown (hts _ (ow_m (k := 1) rfl)) dX7_isKept_75 ?_
      refine W.lcmp hx hb dX7_isKept_78 ?_
      refine lv_topi (fun z13509 ez13509 => ?_)
      refine lv_if_eq (tgt := 138) hx hb dX7_isKept_79 (by decide) (fun c13510 => ?_) (fun c13510 => ?_)
      · have c13510 := i_eq (a := z13509.toInt) (b := 0) c13510 rfl (by decide)
        have hl := lv_sub (l' := [(2, .int v13496), (0, .long x0)]) hl [0, 1] rfl
        exact hj13499 _ _ _ ⟨ls, rfl, hl, hP, hD, hS⟩
      · have c13510 := i_ne (a := z13509.toInt) (b := 0) c13510 rfl (by decide)
        refine lv_lload_n hx hb dX7_isKept_82 rfl (lv_at hl 1 rfl) ?_
        refine lv_ldc2 (v := 513020621925) hx hb hown (hts _ (ow_m (k := 2) rfl)) dX7_isKept_83 ?_
        refine W.lcmp hx hb dX7_isKept_86 ?_
        refine lv_topi (fun z13511 ez13511 => ?_)
        refine lv_if_eq (tgt := 138) hx hb dX7_isKept_87 (by decide) (fun c13512 => ?_) (fun c13512 => ?_)
        · have c13512 := i_eq (a := z13511.toInt) (b := 0) c13512 rfl (by decide)
          have hl := lv_sub (l' := [(2, .int v13496), (0, .long x0)]) hl [0, 1] rfl
          exact hj13499 _ _ _ ⟨ls, rfl, hl, hP, hD, hS⟩
        · have c13512 := i_ne (a := z13511.toInt) (b := 0) c13512 rfl (by decide)
          refine lv_lload_n hx hb dX7_isKept_90 rfl (lv_at hl 1 rfl) ?_
          refine lv_ldc2 (v := 504363246962) hx hb hown (hts _ (ow_m (k := 3) rfl)) dX7_isKept_91 ?_
          refine W.lcmp hx hb dX7_isKept_94 ?_
          refine lv_topi (fun z13513 ez13513 => ?_)
          refine lv_if_eq (tgt := 138) hx hb dX7_isKept_95 (by decide) (fun c13514 => ?_) (fun c13514 => ?_)
          · have c13514 := i_eq (a := z13513.toInt) (b := 0) c13514 rfl (by decide)
            have hl := lv_sub (l' := [(2, .int v13496), (0, .long x0)]) hl [0, 1] rfl
            exact hj13499 _ _ _ ⟨ls, rfl, hl, hP, hD, hS⟩
          · have c13514 := i_ne (a := z13513.toInt) (b := 0) c13514 rfl (by decide)
            refine lv_lload_n hx hb dX7_isKept_98 rfl (lv_at hl 1 rfl) ?_
            refine lv_ldc2 (v := 1650549611) hx hb hown (hts _ (ow_m (k := 4) rfl)) dX7_isKept_99 ?_
            refine W.lcmp hx hb dX7_isKept_102 ?_
            refine lv_topi (fun z13515 ez13515 => ?_)
            refine lv_if_eq (tgt := 138) hx hb dX7_isKept_103 (by decide) (fun c13516 => ?_) (fun c13516 => ?_)
            · have c13516 := i_eq (a := z13515.toInt) (b := 0) c13516 rfl (by decide)
              have hl := lv_sub (l' := [(2, .int v13496), (0, .long x0)]) hl [0, 1] rfl
              exact hj13499 _ _ _ ⟨ls, rfl, hl, hP, hD, hS⟩
            · have c13516 := i_ne (a := z13515.toInt) (b := 0) c13516 rfl (by decide)
              refine lv_lload_n hx hb dX7_isKept_106 rfl (lv_at hl 1 rfl) ?_
              refine lv_ldc2 (v := 1953063787) hx hb hown (hts _ (ow_m (k := 5) rfl)) dX7_isKept_107 ?_
              refine W.lcmp hx hb dX7_isKept_110 ?_
              refine lv_topi (fun z13517 ez13517 => ?_)
              refine lv_if_eq (tgt := 138) hx hb dX7_isKept_111 (by decide) (fun c13518 => ?_) (fun c13518 => ?_)
              · have c13518 := i_eq (a := z13517.toInt) (b := 0) c13518 rfl (by decide)
                have hl := lv_sub (l' := [(2, .int v13496), (0, .long x0)]) hl [0, 1] rfl
                exact hj13499 _ _ _ ⟨ls, rfl, hl, hP, hD, hS⟩
              · have c13518 := i_ne (a := z13517.toInt) (b := 0) c13518 rfl (by decide)
                refine lv_lload_n hx hb dX7_isKept_114 rfl (lv_at hl 1 rfl) ?_
                refine lv_ldc2 (v := 28530) hx hb hown (hts _ (ow_m (k := 6) rfl)) dX7_isKept_115 ?_
                refine W.lcmp hx hb dX7_isKept_118 ?_
                refine lv_topi (fun z13519 ez13519 => ?_)
                refine lv_if_eq (tgt := 138) hx hb dX7_isKept_119 (by decide) (fun c13520 => ?_) (fun c13520 => ?_)
                · have c13520 := i_eq (a := z13519.toInt) (b := 0) c13520 rfl (by decide)
                  have hl := lv_sub (l' := [(2, .int v13496), (0, .long x0)]) hl [0, 1] rfl
                  exact hj13499 _ _ _ ⟨ls, rfl, hl, hP, hD, hS⟩
                · have c13520 := i_ne (a := z13519.toInt) (b := 0) c13520 rfl (by decide)
                  refine lv_lload_n hx hb dX7_isKept_122 rfl (lv_at hl 1 rfl) ?_
                  refine lv_ldc2 (v := 6385252) hx hb hown (hts _ (ow_m (k := 7) rfl)) dX7_isKept_123 ?_
                  refine W.lcmp hx hb dX7_isKept_126 ?_
                  refine lv_topi (fun z13521 ez13521 => ?_)
                  refine lv_if_eq (tgt := 138) hx hb dX7_isKept_127 (by decide) (fun c13522 => ?_) (fun c13522 => ?_)
                  · have c13522 := i_eq (a := z13521.toInt) (b := 0) c13522 rfl (by decide)
                    have hl := lv_sub (l' := [(2, .int v13496), (0, .long x0)]) hl [0, 1] rfl
                    exact hj13499 _ _ _ ⟨ls, rfl, hl, hP, hD, hS⟩
                  · have c13522 := i_ne (a := z13521.toInt) (b := 0) c13522 rfl (by decide)
                    refine lv_lload_n hx hb dX7_isKept_130 rfl (lv_at hl 1 rfl) ?_
                    refine lv_ldc2 (v := 7237492) hx hb hown (hts _ (ow_m (k := 8) rfl)) dX7_isKept_131 ?_
                    refine W.lcmp hx hb dX7_isKept_134 ?_
                    refine lv_topi (fun z13523 ez13523 => ?_)
                    refine lv_if_ne (tgt := 142) hx hb dX7_isKept_135 (by decide) (fun c13524 => ?_) (fun c13524 => ?_)
                    · have c13524 := i_ne (a := z13523.toInt) (b := 0) c13524 rfl (by decide)
                      refine lv_iconst (v := 0) hx hb dX7_isKept_142 (by decide) ?_
                      have hl := lv_sub (l' := [(2, .int v13496), (0, .long x0)]) hl [0, 1] rfl
                      exact hj13502 _ _ _ ⟨(0 : Int32), ls, rfl, hl, hP, hD, hS, by first | assumption | omega, by first | assumption | omega⟩
                    · have c13524 := i_eq (a := z13523.toInt) (b := 0) c13524 rfl (by decide)
                      have hl := lv_sub (l' := [(2, .int v13496), (0, .long x0)]) hl [0, 1] rfl
                      exact hj13499 _ _ _ ⟨ls, rfl, hl, hP, hD, hS⟩
  refine lv_if_eq (tgt := 64) hx hb dX7_isKept_5 (by decide) (fun c13525 => ?_) (fun c13525 => ?_)
  · have c13525 := i_eq (a := z13483.toInt) (b := 0) c13525 rfl (by decide)
    have hl := lv_sub (l' := [(0, .long x0)]) hl [0] rfl
    exact hj13484 _ _ _ ⟨ls, rfl, hl, hP, hD, hS⟩
  · have c13525 := i_ne (a := z13483.toInt) (b := 0) c13525 rfl (by decide)
    refine lv_lload_n hx hb dX7_isKept_8 rfl (lv_at hl 0 rfl) ?_
    refine lv_ldc2 (v := 495806673509) hx hb hown (hts _ (ow_m (k := 9) rfl)) dX7_isKept_9 ?_
    refine W.lcmp hx hb dX7_isKept_12 ?_
    refine lv_topi (fun z13526 ez13526 => ?_)
    refine lv_if_eq (tgt := 64) hx hb dX7_isKept_13 (by decide) (fun c13527 => ?_) (fun c13527 => ?_)
    · have c13527 := i_eq (a := z13526.toInt) (b := 0) c13527 rfl (by decide)
      have hl := lv_sub (l' := [(0, .long x0)]) hl [0] rfl
      exact hj13484 _ _ _ ⟨ls, rfl, hl, hP, hD, hS⟩
    · have c13527 := i_ne (a := z13526.toInt) (b := 0) c13527 rfl (by decide)
      refine lv_lload_n hx hb dX7_isKept_16 rfl (lv_at hl 0 rfl) ?_
      refine lv_ldc2 (v := 7038329) hx hb hown (hts _ (ow_m (k := 10) rfl)) dX7_isKept_17 ?_
      refine W.lcmp hx hb dX7_isKept_20 ?_
      refine lv_topi (fun z13528 ez13528 => ?_)
      refine lv_if_eq (tgt := 64) hx hb dX7_isKept_21 (by decide) (fun c13529 => ?_) (fun c13529 => ?_)
      · have c13529 := i_eq (a := z13528.toInt) (b := 0) c13529 rfl (by decide)
        have hl := lv_sub (l' := [(0, .long x0)]) hl [0] rfl
        exact hj13484 _ _ _ ⟨ls, rfl, hl, hP, hD, hS⟩
      · have c13529 := i_ne (a := z13528.toInt) (b := 0) c13529 rfl (by decide)
        refine lv_lload_n hx hb dX7_isKept_24 rfl (lv_at hl 0 rfl) ?_
        refine lv_ldc2 (v := 1936486263) hx hb hown (hts _ (ow_m (k := 11) rfl)) dX7_isKept_25 ?_
        refine W.lcmp hx hb dX7_isKept_28 ?_
        refine lv_topi (fun z13530 ez13530 => ?_)
        refine lv_if_eq (tgt := 64) hx hb dX7_isKept_29 (by decide) (fun c13531 => ?_) (fun c13531 => ?_)
        · have c13531 := i_eq (a := z13530.toInt) (b := 0) c13531 rfl (by decide)
          have hl := lv_sub (l' := [(0, .long x0)]) hl [0] rfl
          exact hj13484 _ _ _ ⟨ls, rfl, hl, hP, hD, hS⟩
        · have c13531 := i_ne (a := z13530.toInt) (b := 0) c13531 rfl (by decide)
          refine lv_lload_n hx hb dX7_isKept_32 rfl (lv_at hl 0 rfl) ?_
          refine lv_ldc2 (v := 1668247673) hx hb hown (hts _ (ow_m (k := 12) rfl)) dX7_isKept_33 ?_
          refine W.lcmp hx hb dX7_isKept_36 ?_
          refine lv_topi (fun z13532 ez13532 => ?_)
          refine lv_if_eq (tgt := 64) hx hb dX7_isKept_37 (by decide) (fun c13533 => ?_) (fun c13533 => ?_)
          · have c13533 := i_eq (a := z13532.toInt) (b := 0) c13533 rfl (by decide)
            have hl := lv_sub (l' := [(0, .long x0)]) hl [0] rfl
            exact hj13484 _ _ _ ⟨ls, rfl, hl, hP, hD, hS⟩
          · have c13533 := i_ne (a := z13532.toInt) (b := 0) c13533 rfl (by decide)
            refine lv_lload_n hx hb dX7_isKept_40 rfl (lv_at hl 0 rfl) ?_
            refine lv_ldc2 (v := 1819243379) hx hb hown (hts _ (ow_m (k := 13) rfl)) dX7_isKept_41 ?_
            refine W.lcmp hx hb dX7_isKept_44 ?_
            refine lv_topi (fun z13534 ez13534 => ?_)
            refine lv_if_eq (tgt := 64) hx hb dX7_isKept_45 (by decide) (fun c13535 => ?_) (fun c13535 => ?_)
            · have c13535 := i_eq (a := z13534.toInt) (b := 0) c13535 rfl (by decide)
              have hl := lv_sub (l' := [(0, .long x0)]) hl [0] rfl
              exact hj13484 _ _ _ ⟨ls, rfl, hl, hP, hD, hS⟩
            · have c13535 := i_ne (a := z13534.toInt) (b := 0) c13535 rfl (by decide)
              refine lv_lload_n hx hb dX7_isKept_48 rfl (lv_at hl 0 rfl) ?_
              refine lv_ldc2 (v := 1685217655) hx hb hown (hts _ (ow_m (k := 14) rfl)) dX7_isKept_49 ?_
              refine W.lcmp hx hb dX7_isKept_52 ?_
              refine lv_topi (fun z13536 ez13536 => ?_)
              refine lv_if_eq (tgt := 64) hx hb dX7_isKept_53 (by decide) (fun c13537 => ?_) (fun c13537 => ?_)
              · have c13537 := i_eq (a := z13536.toInt) (b := 0) c13537 rfl (by decide)
                have hl := lv_sub (l' := [(0, .long x0)]) hl [0] rfl
                exact hj13484 _ _ _ ⟨ls, rfl, hl, hP, hD, hS⟩
              · have c13537 := i_ne (a := z13536.toInt) (b := 0) c13537 rfl (by decide)
                refine lv_lload_n hx hb dX7_isKept_56 rfl (lv_at hl 0 rfl) ?_
                refine lv_ldc2 (v := 1718775661) hx hb hown (hts _ (ow_m (k := 15) rfl)) dX7_isKept_57 ?_
                refine W.lcmp hx hb dX7_isKept_60 ?_
                refine lv_topi (fun z13538 ez13538 => ?_)
                refine lv_if_ne (tgt := 68) hx hb dX7_isKept_61 (by decide) (fun c13539 => ?_) (fun c13539 => ?_)
                · have c13539 := i_ne (a := z13538.toInt) (b := 0) c13539 rfl (by decide)
                  refine lv_iconst (v := 0) hx hb dX7_isKept_68 (by decide) ?_
                  have hl := lv_sub (l' := [(0, .long x0)]) hl [0] rfl
                  exact hj13495 _ _ _ ⟨(0 : Int32), ls, rfl, hl, hP, hD, hS, by first | assumption | omega, by first | assumption | omega⟩
                · have c13539 := i_eq (a := z13538.toInt) (b := 0) c13539 rfl (by decide)
                  have hl := lv_sub (l' := [(0, .long x0)]) hl [0] rfl
                  exact hj13484 _ _ _ ⟨ls, rfl, hl, hP, hD, hS⟩
def wo_k_M_isSign : List Cond := []
def wq_k_M_isSign : List Cond := .code yX7_isSign cX7_isSign 1 (some .boolean) :: (wo_k_M_isSign ++ [])
theorem gd_k_M_isSign : Gd wq_k_M_isSign := gd_c (gd_a (gd_o (by decide +kernel)) gd_0)
abbrev wc_k_M_isSign (cyB cyI cyJ cyZ cyO : ClassId) (x0 : Int32) : va_W := []
set_option maxHeartbeats 4000000 in
set_option maxRecDepth 100000 in
theorem k_M_isSign (l : Launch) (dC : Nat → ClassId) (dI : Nat → Nat → Nat) (cyB cyI cyJ cyZ cyO : ClassId) (x0 : Int32) (sz : Nat) : Met l yX7_isSign wq_k_M_isSign ({ frames := 0, cells := 0, slots := 0, locals := 0 }) (va_Pc [.int x0] (cB (dC, dI) (kT cyB cyI cyJ cyZ cyO) (wc_k_M_isSign cyB cyI cyJ cyZ cyO x0) sz)) (va_Qi (fun (r : Int32) (u : Unit) => (0 ≤ r.toInt) ∧ (r.toInt ≤ 1)) (fun (u : Unit) t => cE (dC, dI) (va_A (wc_k_M_isSign cyB cyI cyJ cyZ cyO x0) sz) ([]) t.heap) (va_A (wc_k_M_isSign cyB cyI cyJ cyZ cyO x0) sz)) 0 0 (va_A (wc_k_M_isSign cyB cyI cyJ cyZ cyO x0) sz) := by
  refine Met.ofW (cc := cX7_isSign) (maxL := 1) (ret := (some .boolean)) (by decide) rfl ?_
  intro p e s m args below meth c s₁ B hml hv
  obtain ⟨rfl, hsz, hP, hKN, hD0⟩ := hv
  have hx := B.exec
  have hb := B.bytes
  have hr := B.returns
  have hts := atoms_spec (ws := wq_k_M_isSign) B.pre
  have hown : s.vm.findClass RX7 = some m.cls := findClass_of_methodNamed B.named
  have hlocks := B.notSynchronized
  have hK := hKN.1
  have hfix : CallFix p m c cX7_isSign 1 s [.int x0].toArray wq_k_M_isSign RX7 := ⟨hx, hb, hml, hown, hts⟩
  subst hsz
  have hD := hD0.self (sz := s.heap.size)
  generalize hAe : va_A (wc_k_M_isSign cyB cyI cyJ cyZ cyO x0) s.heap.size = A at hD ⊢
  have hA : ∀ q : Nat, s.heap.size ≤ q → A q := fun q h => by rw [← hAe]; exact Or.inr h
  have hS : va_S A s.heap s.heap [] := va_S.rf
  have hl := lv_entry ([.int x0]) (n := 1) (Nat.le_of_ble_eq_true rfl)
  rw [lg_entry_eq]
  generalize (lg_sl ([.int x0]) ++ List.replicate (1 - (lg_sl ([.int x0])).length) Slot.unset).toArray = ls at hl ⊢
  have hl : lv_has ls 1 [(0, .int x0)] := hl
  have ck0 : (0 : Int32).toInt = 0 := by decide
  have ck1 : (1 : Int32).toInt = 1 := by decide
  refine lv_iload_n hx hb dX7_isSign_0 rfl (lv_at hl 0 rfl) ?_
  refine lv_bipush (v := 59) hx hb dX7_isSign_1 (by decide) ?_
  refine lv_icmp_eq (tgt := 66) hx hb dX7_isSign_3 (by decide) (fun c13551 => ?_) (fun c13551 => ?_)
  · have c13551 := i_eq (a := x0.toInt) (b := 59) c13551 rfl (by decide)
    refine lv_iconst (v := 1) hx hb dX7_isSign_66 (by decide) ?_
    refine lv_goto (tgt := 71) hx hb dX7_isSign_67 (by decide) ?_
    have w13552 : 0 ≤ (1 : Int32).toInt := by first | omega | assumption | rfl
    have w13553 : (1 : Int32).toInt ≤ 1 := by first | omega | assumption | rfl
    exact W.zret (v := 1) hx hb hr (by decide) (fun t ht hW => ⟨⟨1, (), rfl, ⟨w13552, w13553⟩, cE.of ht hP hD [] (by decide) rfl⟩, hS.F ht⟩) hS.2.2 dX7_isSign_71
  · have c13551 := i_ne (a := x0.toInt) (b := 59) c13551 rfl (by decide)
    refine lv_iload_n hx hb dX7_isSign_6 rfl (lv_at hl 0 rfl) ?_
    refine lv_bipush (v := 40) hx hb dX7_isSign_7 (by decide) ?_
    refine lv_icmp_eq (tgt := 66) hx hb dX7_isSign_9 (by decide) (fun c13554 => ?_) (fun c13554 => ?_)
    · have c13554 := i_eq (a := x0.toInt) (b := 40) c13554 rfl (by decide)
      refine lv_iconst (v := 1) hx hb dX7_isSign_66 (by decide) ?_
      refine lv_goto (tgt := 71) hx hb dX7_isSign_67 (by decide) ?_
      have w13555 : 0 ≤ (1 : Int32).toInt := by first | omega | assumption | rfl
      have w13556 : (1 : Int32).toInt ≤ 1 := by first | omega | assumption | rfl
      exact W.zret (v := 1) hx hb hr (by decide) (fun t ht hW => ⟨⟨1, (), rfl, ⟨w13555, w13556⟩, cE.of ht hP hD [] (by decide) rfl⟩, hS.F ht⟩) hS.2.2 dX7_isSign_71
    · have c13554 := i_ne (a := x0.toInt) (b := 40) c13554 rfl (by decide)
      refine lv_iload_n hx hb dX7_isSign_12 rfl (lv_at hl 0 rfl) ?_
      refine lv_bipush (v := 41) hx hb dX7_isSign_13 (by decide) ?_
      refine lv_icmp_eq (tgt := 66) hx hb dX7_isSign_15 (by decide) (fun c13557 => ?_) (fun c13557 => ?_)
      · have c13557 := i_eq (a := x0.toInt) (b := 41) c13557 rfl (by decide)
        refine lv_iconst (v := 1) hx hb dX7_isSign_66 (by decide) ?_
        refine lv_goto (tgt := 71) hx hb dX7_isSign_67 (by decide) ?_
        have w13558 : 0 ≤ (1 : Int32).toInt := by first | omega | assumption | rfl
        have w13559 : (1 : Int32).toInt ≤ 1 := by first | omega | assumption | rfl
        exact W.zret (v := 1) hx hb hr (by decide) (fun t ht hW => ⟨⟨1, (), rfl, ⟨w13558, w13559⟩, cE.of ht hP hD [] (by decide) rfl⟩, hS.F ht⟩) hS.2.2 dX7_isSign_71
      · have c13557 := i_ne (a := x0.toInt) (b := 41) c13557 rfl (by decide)
        refine lv_iload_n hx hb dX7_isSign_18 rfl (lv_at hl 0 rfl) ?_
        refine lv_bipush (v := 60) hx hb dX7_isSign_19 (by decide) ?_
        refine lv_icmp_eq (tgt := 66) hx hb dX7_isSign_21 (by decide) (fun c13560 => ?_) (fun c13560 => ?_)
        · have c13560 := i_eq (a := x0.toInt) (b := 60) c13560 rfl (by decide)
          refine lv_iconst (v := 1) hx hb dX7_isSign_66 (by decide) ?_
          refine lv_goto (tgt := 71) hx hb dX7_isSign_67 (by decide) ?_
          have w13561 : 0 ≤ (1 : Int32).toInt := by first | omega | assumption | rfl
          have w13562 : (1 : Int32).toInt ≤ 1 := by first | omega | assumption | rfl
          exact W.zret (v := 1) hx hb hr (by decide) (fun t ht hW => ⟨⟨1, (), rfl, ⟨w13561, w13562⟩, cE.of ht hP hD [] (by decide) rfl⟩, hS.F ht⟩) hS.2.2 dX7_isSign_71
        · have c13560 := i_ne (a := x0.toInt) (b := 60) c13560 rfl (by decide)
          refine lv_iload_n hx hb dX7_isSign_24 rfl (lv_at hl 0 rfl) ?_
          refine lv_bipush (v := 62) hx hb dX7_isSign_25 (by decide) ?_
          refine lv_icmp_eq (tgt := 66) hx hb dX7_isSign_27 (by decide) (fun c13563 => ?_) (fun c13563 => ?_)
          · have c13563 := i_eq (a := x0.toInt) (b := 62) c13563 rfl (by decide)
            refine lv_iconst (v := 1) hx hb dX7_isSign_66 (by decide) ?_
            refine lv_goto (tgt := 71) hx hb dX7_isSign_67 (by decide) ?_
            have w13564 : 0 ≤ (1 : Int32).toInt := by first | omega | assumption | rfl
            have w13565 : (1 : Int32).toInt ≤ 1 := by first | omega | assumption | rfl
            exact W.zret (v := 1) hx hb hr (by decide) (fun t ht hW => ⟨⟨1, (), rfl, ⟨w13564, w13565⟩, cE.of ht hP hD [] (by decide) rfl⟩, hS.F ht⟩) hS.2.2 dX7_isSign_71
          · have c13563 := i_ne (a := x0.toInt) (b := 62) c13563 rfl (by decide)
            refine lv_iload_n hx hb dX7_isSign_30 rfl (lv_at hl 0 rfl) ?_
            refine lv_bipush (v := 61) hx hb dX7_isSign_31 (by decide) ?_
            refine lv_icmp_eq (tgt := 66) hx hb dX7_isSign_33 (by decide) (fun c13566 => ?_) (fun c13566 => ?_)
            · have c13566 := i_eq (a := x0.toInt) (b := 61) c13566 rfl (by decide)
              refine lv_iconst (v := 1) hx hb dX7_isSign_66 (by decide) ?_
              refine lv_goto (tgt := 71) hx hb dX7_isSign_67 (by decide) ?_
              have w13567 : 0 ≤ (1 : Int32).toInt := by first | omega | assumption | rfl
              have w13568 : (1 : Int32).toInt ≤ 1 := by first | omega | assumption | rfl
              exact W.zret (v := 1) hx hb hr (by decide) (fun t ht hW => ⟨⟨1, (), rfl, ⟨w13567, w13568⟩, cE.of ht hP hD [] (by decide) rfl⟩, hS.F ht⟩) hS.2.2 dX7_isSign_71
            · have c13566 := i_ne (a := x0.toInt) (b := 61) c13566 rfl (by decide)
              refine lv_iload_n hx hb dX7_isSign_36 rfl (lv_at hl 0 rfl) ?_
              refine lv_bipush (v := 43) hx hb dX7_isSign_37 (by decide) ?_
              refine lv_icmp_eq (tgt := 66) hx hb dX7_isSign_39 (by decide) (fun c13569 => ?_) (fun c13569 => ?_)
              · have c13569 := i_eq (a := x0.toInt) (b := 43) c13569 rfl (by decide)
                refine lv_iconst (v := 1) hx hb dX7_isSign_66 (by decide) ?_
                refine lv_goto (tgt := 71) hx hb dX7_isSign_67 (by decide) ?_
                have w13570 : 0 ≤ (1 : Int32).toInt := by first | omega | assumption | rfl
                have w13571 : (1 : Int32).toInt ≤ 1 := by first | omega | assumption | rfl
                exact W.zret (v := 1) hx hb hr (by decide) (fun t ht hW => ⟨⟨1, (), rfl, ⟨w13570, w13571⟩, cE.of ht hP hD [] (by decide) rfl⟩, hS.F ht⟩) hS.2.2 dX7_isSign_71
              · have c13569 := i_ne (a := x0.toInt) (b := 43) c13569 rfl (by decide)
                refine lv_iload_n hx hb dX7_isSign_42 rfl (lv_at hl 0 rfl) ?_
                refine lv_bipush (v := 45) hx hb dX7_isSign_43 (by decide) ?_
                refine lv_icmp_eq (tgt := 66) hx hb dX7_isSign_45 (by decide) (fun c13572 => ?_) (fun c13572 => ?_)
                · have c13572 := i_eq (a := x0.toInt) (b := 45) c13572 rfl (by decide)
                  refine lv_iconst (v := 1) hx hb dX7_isSign_66 (by decide) ?_
                  refine lv_goto (tgt := 71) hx hb dX7_isSign_67 (by decide) ?_
                  have w13573 : 0 ≤ (1 : Int32).toInt := by first | omega | assumption | rfl
                  have w13574 : (1 : Int32).toInt ≤ 1 := by first | omega | assumption | rfl
                  exact W.zret (v := 1) hx hb hr (by decide) (fun t ht hW => ⟨⟨1, (), rfl, ⟨w13573, w13574⟩, cE.of ht hP hD [] (by decide) rfl⟩, hS.F ht⟩) hS.2.2 dX7_isSign_71
                · have c13572 := i_ne (a := x0.toInt) (b := 45) c13572 rfl (by decide)
                  refine lv_iload_n hx hb dX7_isSign_48 rfl (lv_at hl 0 rfl) ?_
                  refine lv_bipush (v := 42) hx hb dX7_isSign_49 (by decide) ?_
                  refine lv_icmp_eq (tgt := 66) hx hb dX7_isSign_51 (by decide) (fun c13575 => ?_) (fun c13575 => ?_)
                  · have c13575 := i_eq (a := x0.toInt) (b := 42) c13575 rfl (by decide)
                    refine lv_iconst (v := 1) hx hb dX7_isSign_66 (by decide) ?_
                    refine lv_goto (tgt := 71) hx hb dX7_isSign_67 (by decide) ?_
                    have w13576 : 0 ≤ (1 : Int32).toInt := by first | omega | assumption | rfl
                    have w13577 : (1 : Int32).toInt ≤ 1 := by first | omega | assumption | rfl
                    exact W.zret (v := 1) hx hb hr (by decide) (fun t ht hW => ⟨⟨1, (), rfl, ⟨w13576, w13577⟩, cE.of ht hP hD [] (by decide) rfl⟩, hS.F ht⟩) hS.2.2 dX7_isSign_71
                  · have c13575 := i_ne (a := x0.toInt) (b := 42) c13575 rfl (by decide)
                    refine lv_iload_n hx hb dX7_isSign_54 rfl (lv_at hl 0 rfl) ?_
                    refine lv_bipush (v := 47) hx hb dX7_isSign_55 (by decide) ?_
                    refine lv_icmp_eq (tgt := 66) hx hb dX7_isSign_57 (by decide) (fun c13578 => ?_) (fun c13578 => ?_)
                    · have c13578 := i_eq (a := x0.toInt) (b := 47) c13578 rfl (by decide)
                      refine lv_iconst (v := 1) hx hb dX7_isSign_66 (by decide) ?_
                      refine lv_goto (tgt := 71) hx hb dX7_isSign_67 (by decide) ?_
                      have w13579 : 0 ≤ (1 : Int32).toInt := by first | omega | assumption | rfl
                      have w13580 : (1 : Int32).toInt ≤ 1 := by first | omega | assumption | rfl
                      exact W.zret (v := 1) hx hb hr (by decide) (fun t ht hW => ⟨⟨1, (), rfl, ⟨w13579, w13580⟩, cE.of ht hP hD [] (by decide) rfl⟩, hS.F ht⟩) hS.2.2 dX7_isSign_71
                    · have c13578 := i_ne (a := x0.toInt) (b := 47) c13578 rfl (by decide)
                      refine lv_iload_n hx hb dX7_isSign_60 rfl (lv_at hl 0 rfl) ?_
                      refine lv_bipush (v := 37) hx hb dX7_isSign_61 (by decide) ?_
                      refine lv_icmp_ne (tgt := 70) hx hb dX7_isSign_63 (by decide) (fun c13581 => ?_) (fun c13581 => ?_)
                      · have c13581 := i_ne (a := x0.toInt) (b := 37) c13581 rfl (by decide)
                        refine lv_iconst (v := 0) hx hb dX7_isSign_70 (by decide) ?_
                        have w13582 : 0 ≤ (0 : Int32).toInt := by first | omega | assumption | rfl
                        have w13583 : (0 : Int32).toInt ≤ 1 := by first | omega | assumption | rfl
                        exact W.zret (v := 0) hx hb hr (by decide) (fun t ht hW => ⟨⟨0, (), rfl, ⟨w13582, w13583⟩, cE.of ht hP hD [] (by decide) rfl⟩, hS.F ht⟩) hS.2.2 dX7_isSign_71
                      · have c13581 := i_eq (a := x0.toInt) (b := 37) c13581 rfl (by decide)
                        refine lv_iconst (v := 1) hx hb dX7_isSign_66 (by decide) ?_
                        refine lv_goto (tgt := 71) hx hb dX7_isSign_67 (by decide) ?_
                        have w13584 : 0 ≤ (1 : Int32).toInt := by first | omega | assumption | rfl
                        have w13585 : (1 : Int32).toInt ≤ 1 := by first | omega | assumption | rfl
                        exact W.zret (v := 1) hx hb hr (by decide) (fun t ht hW => ⟨⟨1, (), rfl, ⟨w13584, w13585⟩, cE.of ht hP hD [] (by decide) rfl⟩, hS.F ht⟩) hS.2.2 dX7_isSign_71
def wo_k_M_isIn : List Cond := []
def wq_k_M_isIn : List Cond := .code yX7_isIn cX7_isIn 3 (some .boolean) :: (wo_k_M_isIn ++ [])
theorem gd_k_M_isIn : Gd wq_k_M_isIn := gd_c (gd_a (gd_o (by decide +kernel)) gd_0)
abbrev wc_k_M_isIn (cyB cyI cyJ cyZ cyO : ClassId) (x0 : Int32) (x1 : Int32) (x2 : Int32) : va_W := []
set_option maxHeartbeats 4000000 in
set_option maxRecDepth 100000 in
theorem k_M_isIn (l : Launch) (dC : Nat → ClassId) (dI : Nat → Nat → Nat) (cyB cyI cyJ cyZ cyO : ClassId) (x0 : Int32) (x1 : Int32) (x2 : Int32) (sz : Nat) : Met l yX7_isIn wq_k_M_isIn ({ frames := 0, cells := 0, slots := 0, locals := 0 }) (va_Pc [.int x0, .int x1, .int x2] (cB (dC, dI) (kT cyB cyI cyJ cyZ cyO) (wc_k_M_isIn cyB cyI cyJ cyZ cyO x0 x1 x2) sz)) (va_Qi (fun (r : Int32) (u : Unit) => (((r = 1 ∧ (x1.toInt ≤ x0.toInt) ∧ (x0.toInt ≤ x2.toInt)) ∨ (r = 0 ∧ (x0.toInt < x1.toInt ∨ x2.toInt < x0.toInt))))) (fun (u : Unit) t => cE (dC, dI) (va_A (wc_k_M_isIn cyB cyI cyJ cyZ cyO x0 x1 x2) sz) ([]) t.heap) (va_A (wc_k_M_isIn cyB cyI cyJ cyZ cyO x0 x1 x2) sz)) 0 0 (va_A (wc_k_M_isIn cyB cyI cyJ cyZ cyO x0 x1 x2) sz) := by
  refine Met.ofW (cc := cX7_isIn) (maxL := 3) (ret := (some .boolean)) (by decide) rfl ?_
  intro p e s m args below meth c s₁ B hml hv
  obtain ⟨rfl, hsz, hP, hKN, hD0⟩ := hv
  have hx := B.exec
  have hb := B.bytes
  have hr := B.returns
  have hts := atoms_spec (ws := wq_k_M_isIn) B.pre
  have hown : s.vm.findClass RX7 = some m.cls := findClass_of_methodNamed B.named
  have hlocks := B.notSynchronized
  have hK := hKN.1
  have hfix : CallFix p m c cX7_isIn 3 s [.int x0, .int x1, .int x2].toArray wq_k_M_isIn RX7 := ⟨hx, hb, hml, hown, hts⟩
  subst hsz
  have hD := hD0.self (sz := s.heap.size)
  generalize hAe : va_A (wc_k_M_isIn cyB cyI cyJ cyZ cyO x0 x1 x2) s.heap.size = A at hD ⊢
  have hA : ∀ q : Nat, s.heap.size ≤ q → A q := fun q h => by rw [← hAe]; exact Or.inr h
  have hS : va_S A s.heap s.heap [] := va_S.rf
  have hl := lv_entry ([.int x0, .int x1, .int x2]) (n := 3) (Nat.le_of_ble_eq_true rfl)
  rw [lg_entry_eq]
  generalize (lg_sl ([.int x0, .int x1, .int x2]) ++ List.replicate (3 - (lg_sl ([.int x0, .int x1, .int x2])).length) Slot.unset).toArray = ls at hl ⊢
  have hl : lv_has ls 3 [(0, .int x0), (1, .int x1), (2, .int x2)] := hl
  refine lv_iload_n hx hb dX7_isIn_0 rfl (lv_at hl 0 rfl) ?_
  refine lv_iload_n hx hb dX7_isIn_1 rfl (lv_at hl 1 rfl) ?_
  refine lv_icmp_lt (tgt := 14) hx hb dX7_isIn_2 (by decide) (fun c13588 => ?_) (fun c13588 => ?_)
  · have c13588 := i_lt (a := x0.toInt) (b := x1.toInt) c13588 rfl rfl
    refine lv_iconst (v := 0) hx hb dX7_isIn_14 (by decide) ?_
    have w13589 : x0.toInt < x1.toInt ∨ x2.toInt < x0.toInt := by first | omega | assumption | rfl
    exact W.zret (v := 0) hx hb hr (by decide) (fun t ht hW => ⟨⟨0, (), rfl, (Or.inr ⟨rfl, w13589⟩), cE.of ht hP hD [] (by decide) rfl⟩, hS.F ht⟩) hS.2.2 dX7_isIn_15
  · have c13588 := i_nlt (a := x0.toInt) (b := x1.toInt) c13588 rfl rfl
    refine lv_iload_n hx hb dX7_isIn_5 rfl (lv_at hl 0 rfl) ?_
    refine lv_iload_n hx hb dX7_isIn_6 rfl (lv_at hl 2 rfl) ?_
    refine lv_icmp_gt (tgt := 14) hx hb dX7_isIn_7 (by decide) (fun c13590 => ?_) (fun c13590 => ?_)
    · have c13590 := i_lt (a := x2.toInt) (b := x0.toInt) c13590 rfl rfl
      refine lv_iconst (v := 0) hx hb dX7_isIn_14 (by decide) ?_
      have w13591 : x0.toInt < x1.toInt ∨ x2.toInt < x0.toInt := by first | omega | assumption | rfl
      exact W.zret (v := 0) hx hb hr (by decide) (fun t ht hW => ⟨⟨0, (), rfl, (Or.inr ⟨rfl, w13591⟩), cE.of ht hP hD [] (by decide) rfl⟩, hS.F ht⟩) hS.2.2 dX7_isIn_15
    · have c13590 := i_nlt (a := x2.toInt) (b := x0.toInt) c13590 rfl rfl
      refine lv_iconst (v := 1) hx hb dX7_isIn_10 (by decide) ?_
      refine lv_goto (tgt := 15) hx hb dX7_isIn_11 (by decide) ?_
      have w13592 : x1.toInt ≤ x0.toInt := by first | omega | assumption | rfl
      have w13593 : x0.toInt ≤ x2.toInt := by first | omega | assumption | rfl
      exact W.zret (v := 1) hx hb hr (by decide) (fun t ht hW => ⟨⟨1, (), rfl, (Or.inl ⟨rfl, w13592, w13593⟩), cE.of ht hP hD [] (by decide) rfl⟩, hS.F ht⟩) hS.2.2 dX7_isIn_15
def wo_k_M_held : List Cond := []
def wq_k_M_held : List Cond := .code yX7_held cX7_held 3 (some .int) :: (wo_k_M_held ++ [])
theorem gd_k_M_held : Gd wq_k_M_held := gd_c (gd_a (gd_o (by decide +kernel)) gd_0)
abbrev wc_k_M_held (cyB cyI cyJ cyZ cyO : ClassId) (x0 : Int32) (x1 : Int32) (x2 : Int32) : va_W := []
set_option maxHeartbeats 4000000 in
set_option maxRecDepth 100000 in
theorem k_M_held (l : Launch) (dC : Nat → ClassId) (dI : Nat → Nat → Nat) (cyB cyI cyJ cyZ cyO : ClassId) (x0 : Int32) (x1 : Int32) (x2 : Int32) (sz : Nat) : Met l yX7_held wq_k_M_held ({ frames := 0, cells := 0, slots := 0, locals := 0 }) (va_Pc [.int x0, .int x1, .int x2] (cB (dC, dI) (kT cyB cyI cyJ cyZ cyO) (wc_k_M_held cyB cyI cyJ cyZ cyO x0 x1 x2) sz)) (va_Qi (fun (r : Int32) (u : Unit) => (x1.toInt ≤ x2.toInt → x1.toInt ≤ r.toInt ∧ r.toInt ≤ x2.toInt)) (fun (u : Unit) t => cE (dC, dI) (va_A (wc_k_M_held cyB cyI cyJ cyZ cyO x0 x1 x2) sz) ([]) t.heap) (va_A (wc_k_M_held cyB cyI cyJ cyZ cyO x0 x1 x2) sz)) 0 0 (va_A (wc_k_M_held cyB cyI cyJ cyZ cyO x0 x1 x2) sz) := by
  refine Met.ofW (cc := cX7_held) (maxL := 3) (ret := (some .int)) (by decide) rfl ?_
  intro p e s m args below meth c s₁ B hml hv
  obtain ⟨rfl, hsz, hP, hKN, hD0⟩ := hv
  have hx := B.exec
  have hb := B.bytes
  have hr := B.returns
  have hts := atoms_spec (ws := wq_k_M_held) B.pre
  have hown : s.vm.findClass RX7 = some m.cls := findClass_of_methodNamed B.named
  have hlocks := B.notSynchronized
  have hK := hKN.1
  have hfix : CallFix p m c cX7_held 3 s [.int x0, .int x1, .int x2].toArray wq_k_M_held RX7 := ⟨hx, hb, hml, hown, hts⟩
  subst hsz
  have hD := hD0.self (sz := s.heap.size)
  generalize hAe : va_A (wc_k_M_held cyB cyI cyJ cyZ cyO x0 x1 x2) s.heap.size = A at hD ⊢
  have hA : ∀ q : Nat, s.heap.size ≤ q → A q := fun q h => by rw [← hAe]; exact Or.inr h
  have hS : va_S A s.heap s.heap [] := va_S.rf
  have hl := lv_entry ([.int x0, .int x1, .int x2]) (n := 3) (Nat.le_of_ble_eq_true rfl)
  rw [lg_entry_eq]
  generalize (lg_sl ([.int x0, .int x1, .int x2]) ++ List.replicate (3 - (lg_sl ([.int x0, .int x1, .int x2])).length) Slot.unset).toArray = ls at hl ⊢
  have hl : lv_has ls 3 [(0, .int x0), (1, .int x1), (2, .int x2)] := hl
  refine lv_iload_n hx hb dX7_held_0 rfl (lv_at hl 0 rfl) ?_
  refine lv_iload_n hx hb dX7_held_1 rfl (lv_at hl 1 rfl) ?_
  refine lv_icmp_ge (tgt := 9) hx hb dX7_held_2 (by decide) (fun c13596 => ?_) (fun c13596 => ?_)
  · have c13596 := i_le (a := x1.toInt) (b := x0.toInt) c13596 rfl rfl
    refine lv_iload_n hx hb dX7_held_9 rfl (lv_at hl 0 rfl) ?_
    refine lv_iload_n hx hb dX7_held_10 rfl (lv_at hl 2 rfl) ?_
    refine lv_icmp_le (tgt := 18) hx hb dX7_held_11 (by decide) (fun c13597 => ?_) (fun c13597 => ?_)
    · have c13597 := i_le (a := x0.toInt) (b := x2.toInt) c13597 rfl rfl
      refine lv_iload_n hx hb dX7_held_18 rfl (lv_at hl 0 rfl) ?_
      have w13598 : x1.toInt ≤ x2.toInt → x1.toInt ≤ x0.toInt ∧ x0.toInt ≤ x2.toInt := by first | omega | assumption | rfl
      exact W.iret (v := x0) hx hb hr (fun t ht hW => ⟨⟨x0, (), rfl, w13598, cE.of ht hP hD [] (by decide) rfl⟩, hS.F ht⟩) hS.2.2 dX7_held_19
    · have c13597 := i_nle (a := x0.toInt) (b := x2.toInt) c13597 rfl rfl
      refine lv_iload_n hx hb dX7_held_14 rfl (lv_at hl 2 rfl) ?_
      refine lv_goto (tgt := 19) hx hb dX7_held_15 (by decide) ?_
      have w13599 : x1.toInt ≤ x2.toInt → x1.toInt ≤ x2.toInt ∧ x2.toInt ≤ x2.toInt := by first | omega | assumption | rfl
      exact W.iret (v := x2) hx hb hr (fun t ht hW => ⟨⟨x2, (), rfl, w13599, cE.of ht hP hD [] (by decide) rfl⟩, hS.F ht⟩) hS.2.2 dX7_held_19
  · have c13596 := i_nle (a := x1.toInt) (b := x0.toInt) c13596 rfl rfl
    refine lv_iload_n hx hb dX7_held_5 rfl (lv_at hl 1 rfl) ?_
    refine lv_goto (tgt := 19) hx hb dX7_held_6 (by decide) ?_
    have w13600 : x1.toInt ≤ x2.toInt → x1.toInt ≤ x1.toInt ∧ x1.toInt ≤ x2.toInt := by first | omega | assumption | rfl
    exact W.iret (v := x1) hx hb hr (fun t ht hW => ⟨⟨x1, (), rfl, w13600, cE.of ht hP hD [] (by decide) rfl⟩, hS.F ht⟩) hS.2.2 dX7_held_19
def wo_k_M_bit : List Cond := []
def wq_k_M_bit : List Cond := .code yX7_bit cX7_bit 2 (some .boolean) :: (wo_k_M_bit ++ [])
theorem gd_k_M_bit : Gd wq_k_M_bit := gd_c (gd_a (gd_o (by decide +kernel)) gd_0)
abbrev wc_k_M_bit (cyB cyI cyJ cyZ cyO : ClassId) (x0 : Int32) (x1 : Int32) : va_W := []
set_option maxHeartbeats 4000000 in
set_option maxRecDepth 100000 in
theorem k_M_bit (l : Launch) (dC : Nat → ClassId) (dI : Nat → Nat → Nat) (cyB cyI cyJ cyZ cyO : ClassId) (x0 : Int32) (x1 : Int32) (sz : Nat) : Met l yX7_bit wq_k_M_bit ({ frames := 0, cells := 0, slots := 0, locals := 0 }) (va_Pc [.int x0, .int x1] (cB (dC, dI) (kT cyB cyI cyJ cyZ cyO) (wc_k_M_bit cyB cyI cyJ cyZ cyO x0 x1) sz)) (va_Qi (fun (r : Int32) (u : Unit) => (0 ≤ r.toInt) ∧ (r.toInt ≤ 1)) (fun (u : Unit) t => cE (dC, dI) (va_A (wc_k_M_bit cyB cyI cyJ cyZ cyO x0 x1) sz) ([]) t.heap) (va_A (wc_k_M_bit cyB cyI cyJ cyZ cyO x0 x1) sz)) 0 0 (va_A (wc_k_M_bit cyB cyI cyJ cyZ cyO x0 x1) sz) := by
  refine Met.ofW (cc := cX7_bit) (maxL := 2) (ret := (some .boolean)) (by decide) rfl ?_
  intro p e s m args below meth c s₁ B hml hv
  obtain ⟨rfl, hsz, hP, hKN, hD0⟩ := hv
  have hx := B.exec
  have hb := B.bytes
  have hr := B.returns
  have hts := atoms_spec (ws := wq_k_M_bit) B.pre
  have hown : s.vm.findClass RX7 = some m.cls := findClass_of_methodNamed B.named
  have hlocks := B.notSynchronized
  have hK := hKN.1
  have hfix : CallFix p m c cX7_bit 2 s [.int x0, .int x1].toArray wq_k_M_bit RX7 := ⟨hx, hb, hml, hown, hts⟩
  subst hsz
  have hD := hD0.self (sz := s.heap.size)
  generalize hAe : va_A (wc_k_M_bit cyB cyI cyJ cyZ cyO x0 x1) s.heap.size = A at hD ⊢
  have hA : ∀ q : Nat, s.heap.size ≤ q → A q := fun q h => by rw [← hAe]; exact Or.inr h
  have hS : va_S A s.heap s.heap [] := va_S.rf
  have hl := lv_entry ([.int x0, .int x1]) (n := 2) (Nat.le_of_ble_eq_true rfl)
  rw [lg_entry_eq]
  generalize (lg_sl ([.int x0, .int x1]) ++ List.replicate (2 - (lg_sl ([.int x0, .int x1])).length) Slot.unset).toArray = ls at hl ⊢
  have hl : lv_has ls 2 [(0, .int x0), (1, .int x1)] := hl
  have ck0 : (0 : Int32).toInt = 0 := by decide
  have ck1 : (1 : Int32).toInt = 1 := by decide
  refine lv_iload_n hx hb dX7_bit_0 rfl (lv_at hl 0 rfl) ?_
  refine lv_iload_n hx hb dX7_bit_1 rfl (lv_at hl 1 rfl) ?_
  refine lv_ishr hx hb dX7_bit_2 ?_
  refine lv_topi (fun z13604 ez13604 => ?_)
  refine lv_iconst (v := 1) hx hb dX7_bit_3 (by decide) ?_
  refine lv_iand hx hb dX7_bit_4 ?_
  refine lv_topi (fun z13605 ez13605 => ?_)
  have tz13605 := ti_and z13604 (m := 1) 1 ez13605 rfl (by decide)
  refine lv_iconst (v := 1) hx hb dX7_bit_5 (by decide) ?_
  refine lv_icmp_ne (tgt := 13) hx hb dX7_bit_6 (by decide) (fun c13606 => ?_) (fun c13606 => ?_)
  · have c13606 := i_ne (a := z13605.toInt) (b := 1) c13606 rfl (by decide)
    refine lv_iconst (v := 0) hx hb dX7_bit_13 (by decide) ?_
    have w13607 : 0 ≤ (0 : Int32).toInt := by first | omega | assumption | rfl
    have w13608 : (0 : Int32).toInt ≤ 1 := by first | omega | assumption | rfl
    exact W.zret (v := 0) hx hb hr (by decide) (fun t ht hW => ⟨⟨0, (), rfl, ⟨w13607, w13608⟩, cE.of ht hP hD [] (by decide) rfl⟩, hS.F ht⟩) hS.2.2 dX7_bit_14
  · have c13606 := i_eq (a := z13605.toInt) (b := 1) c13606 rfl (by decide)
    refine lv_iconst (v := 1) hx hb dX7_bit_9 (by decide) ?_
    refine lv_goto (tgt := 14) hx hb dX7_bit_10 (by decide) ?_
    have w13609 : 0 ≤ (1 : Int32).toInt := by first | omega | assumption | rfl
    have w13610 : (1 : Int32).toInt ≤ 1 := by first | omega | assumption | rfl
    exact W.zret (v := 1) hx hb hr (by decide) (fun t ht hW => ⟨⟨1, (), rfl, ⟨w13609, w13610⟩, cE.of ht hP hD [] (by decide) rfl⟩, hS.F ht⟩) hS.2.2 dX7_bit_14
