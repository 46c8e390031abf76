set_option maxHeartbeats 4000000 in
set_option maxRecDepth 100000 in
theorem law_sw {p : Program} {l : Launch} {e : Env} {s : State} {m : MethodId} {below : List Frame} {meth : Method} {c : Code} {b L : Nat} {xs : Nat → Int32} {dC : Nat → ClassId} {dI : Nat → Nat → Nat} {cyB cyI cyJ cyZ cyO : ClassId} {adK adV : Nat → Nat} (C0 : lw_At p s m meth c b L xs) (hL : L ≤ 3072) (hKN : KN (dC, dI) (kT cyB cyI cyJ cyZ cyO) s) (hZ : ZS adK adV (fun q : Nat => s.heap.size ≤ q) s s.heap) {oX oM : Nat} {i t : Int32} {WX WM : va_W} {cells slots : Nat} (hXI : XI cyB cyI cyJ cyZ cyO oX t WX) (hMI : MI cyB cyI cyJ cyZ cyO oM t WM) (hi0 : 0 ≤ i.toInt) (hi6 : i.toInt + 6 ≤ L) (hc : cells + 8 ≤ 600000) (hs : slots + 773 ≤ 7302250) {H : Heap} {locs : List Loc} (hP : va_P (dC, dI) vwCl (WX ++ WM) H) (hD : va_D (fun q : Nat => s.heap.size ≤ q) (WX ++ WM)) (hS : va_S (fun q : Nat => s.heap.size ≤ q) s.heap H locs) {ls : Array Slot} (hl : lv_has ls 4 [(3, .int i), (2, .ref oM), (1, .ref oX), (0, .ref b)]) (kk : ∀ (t : Int32) (WX WM : va_W) (H : Heap) (locs : List Loc), XI cyB cyI cyJ cyZ cyO oX t WX → MI cyB cyI cyJ cyZ cyO oM t WM → va_P (dC, dI) vwCl (WX ++ WM) H → va_D (fun q : Nat => s.heap.size ≤ q) (WX ++ WM) → va_S (fun q : Nat => s.heap.size ≤ q) s.heap H locs → W p l e room_1 s m #[Value.ref b] below meth c H locs (cells + 8) (slots + 773) (lw_Z below #[Value.ref b] s) (F0 m 1548 ls [])) {v : Int32} : W p l e room_1 s m #[Value.ref b] below meth c H locs cells slots (lw_Z below #[Value.ref b] s) (F0 m 33 ls [.int (v &&& 63)]) := by
  have hx := C0.1
  have hb := C0.2.1
  obtain ⟨j, hj, ej⟩ := pk_andE v (m := 63) 6 rfl
  refine tp_c ej ?_
  by_cases hj0 : j = 0
  · subst hj0
    refine lv_tableIn (tgt := 256) hx hb dL_law_33 (by decide) (by decide) rfl (by decide) ?_
    exact law_0 C0 hL hKN hZ hXI hMI hi0 hi6 hc hs hP hD hS hl kk
  by_cases hj1 : j = 1
  · subst hj1
    refine lv_tableIn (tgt := 319) hx hb dL_law_33 (by decide) (by decide) rfl (by decide) ?_
    exact law_1 C0 hL hKN hZ hXI hMI hi0 hi6 hc hs hP hD hS hl kk
  by_cases hj2 : j = 2
  · subst hj2
    refine lv_tableIn (tgt := 342) hx hb dL_law_33 (by decide) (by decide) rfl (by decide) ?_
    exact law_2 C0 hL hKN hZ hXI hMI hi0 hi6 hc hs hP hD hS hl kk
  by_cases hj3 : j = 3
  · subst hj3
    refine lv_tableIn (tgt := 355) hx hb dL_law_33 (by decide) (by decide) rfl (by decide) ?_
    exact law_3 C0 hL hKN hZ hXI hMI hi0 hi6 hc hs hP hD hS hl kk
  by_cases hj4 : j = 4
  · subst hj4
    refine lv_tableIn (tgt := 378) hx hb dL_law_33 (by decide) (by decide) rfl (by decide) ?_
    exact law_4 C0 hL hKN hZ hXI hMI hi0 hi6 hc hs hP hD hS hl kk
  by_cases hj5 : j = 5
  · subst hj5
    refine lv_tableIn (tgt := 401) hx hb dL_law_33 (by decide) (by decide) rfl (by decide) ?_
    exact law_5 C0 hL hKN hZ hXI hMI hi0 hi6 hc hs hP hD hS hl kk
  by_cases hj6 : j = 6
  · subst hj6
    refine lv_tableIn (tgt := 434) hx hb dL_law_33 (by decide) (by decide) rfl (by decide) ?_
    exact law_6 C0 hL hKN hZ hXI hMI hi0 hi6 hc hs hP hD hS hl kk
  by_cases hj7 : j = 7
  · subst hj7
    refine lv_tableIn (tgt := 467) hx hb dL_law_33 (by decide) (by decide) rfl (by decide) ?_
    exact law_7 C0 hL hKN hZ hXI hMI hi0 hi6 hc hs hP hD hS hl kk
  by_cases hj8 : j = 8
  · subst hj8
    refine lv_tableIn (tgt := 500) hx hb dL_law_33 (by decide) (by decide) rfl (by decide) ?_
    exact law_8 C0 hL hKN hZ hXI hMI hi0 hi6 hc hs hP hD hS hl kk
  by_cases hj9 : j = 9
  · subst hj9
    refine lv_tableIn (tgt := 533) hx hb dL_law_33 (by decide) (by decide) rfl (by decide) ?_
    exact law_9 C0 hL hKN hZ hXI hMI hi0 hi6 hc hs hP hD hS hl kk
  by_cases hj10 : j = 10
  · subst hj10
    refine lv_tableIn (tgt := 566) hx hb dL_law_33 (by decide) (by decide) rfl (by decide) ?_
    exact law_10 C0 hL hKN hZ hXI hMI hi0 hi6 hc hs hP hD hS hl kk
  by_cases hj11 : j = 11
  · subst hj11
    refine lv_tableIn (tgt := 579) hx hb dL_law_33 (by decide) (by decide) rfl (by decide) ?_
    exact law_11 C0 hL hKN hZ hXI hMI hi0 hi6 hc hs hP hD hS hl kk
  by_cases hj12 : j = 12
  · subst hj12
    refine lv_tableIn (tgt := 602) hx hb dL_law_33 (by decide) (by decide) rfl (by decide) ?_
    exact law_12 C0 hL hKN hZ hXI hMI hi0 hi6 hc hs hP hD hS hl kk
  by_cases hj13 : j = 13
  · subst hj13
    refine lv_tableIn (tgt := 625) hx hb dL_law_33 (by decide) (by decide) rfl (by decide) ?_
    exact law_13 C0 hL hKN hZ hXI hMI hi0 hi6 hc hs hP hD hS hl kk
  by_cases hj14 : j = 14
  · subst hj14
    refine lv_tableIn (tgt := 638) hx hb dL_law_33 (by decide) (by decide) rfl (by decide) ?_
    exact law_14 C0 hL hKN hZ hXI hMI hi0 hi6 hc hs hP hD hS hl kk
  by_cases hj15 : j = 15
  · subst hj15
    refine lv_tableIn (tgt := 651) hx hb dL_law_33 (by decide) (by decide) rfl (by decide) ?_
    exact law_15 C0 hL hKN hZ hXI hMI hi0 hi6 hc hs hP hD hS hl kk
  by_cases hj16 : j = 16
  · subst hj16
    refine lv_tableIn (tgt := 684) hx hb dL_law_33 (by decide) (by decide) rfl (by decide) ?_
    exact law_16 C0 hL hKN hZ hXI hMI hi0 hi6 hc hs hP hD hS hl kk
  by_cases hj17 : j = 17
  · subst hj17
    refine lv_tableIn (tgt := 717) hx hb dL_law_33 (by decide) (by decide) rfl (by decide) ?_
    exact law_17 C0 hL hKN hZ hXI hMI hi0 hi6 hc hs hP hD hS hl kk
  by_cases hj18 : j = 18
  · subst hj18
    refine lv_tableIn (tgt := 740) hx hb dL_law_33 (by decide) (by decide) rfl (by decide) ?_
    exact law_18 C0 hL hKN hZ hXI hMI hi0 hi6 hc hs hP hD hS hl kk
  by_cases hj19 : j = 19
  · subst hj19
    refine lv_tableIn (tgt := 763) hx hb dL_law_33 (by decide) (by decide) rfl (by decide) ?_
    exact law_19 C0 hL hKN hZ hXI hMI hi0 hi6 hc hs hP hD hS hl kk
  by_cases hj20 : j = 20
  · subst hj20
    refine lv_tableIn (tgt := 796) hx hb dL_law_33 (by decide) (by decide) rfl (by decide) ?_
    exact law_20 C0 hL hKN hZ hXI hMI hi0 hi6 hc hs hP hD hS hl kk
  by_cases hj21 : j = 21
  · subst hj21
    refine lv_tableIn (tgt := 839) hx hb dL_law_33 (by decide) (by decide) rfl (by decide) ?_
    exact law_21 C0 hL hKN hZ hXI hMI hi0 hi6 hc hs hP hD hS hl kk
  by_cases hj22 : j = 22
  · subst hj22
    refine lv_tableIn (tgt := 872) hx hb dL_law_33 (by decide) (by decide) rfl (by decide) ?_
    exact law_22 C0 hL hKN hZ hXI hMI hi0 hi6 hc hs hP hD hS hl kk
  by_cases hj23 : j = 23
  · subst hj23
    refine lv_tableIn (tgt := 895) hx hb dL_law_33 (by decide) (by decide) rfl (by decide) ?_
    exact law_23 C0 hL hKN hZ hXI hMI hi0 hi6 hc hs hP hD hS hl kk
  by_cases hj24 : j = 24
  · subst hj24
    refine lv_tableIn (tgt := 908) hx hb dL_law_33 (by decide) (by decide) rfl (by decide) ?_
    exact law_24 C0 hL hKN hZ hXI hMI hi0 hi6 hc hs hP hD hS hl kk
  by_cases hj25 : j = 25
  · subst hj25
    refine lv_tableIn (tgt := 931) hx hb dL_law_33 (by decide) (by decide) rfl (by decide) ?_
    exact law_25 C0 hL hKN hZ hXI hMI hi0 hi6 hc hs hP hD hS hl kk
  by_cases hj26 : j = 26
  · subst hj26
    refine lv_tableIn (tgt := 964) hx hb dL_law_33 (by decide) (by decide) rfl (by decide) ?_
    exact law_26 C0 hL hKN hZ hXI hMI hi0 hi6 hc hs hP hD hS hl kk
  by_cases hj27 : j = 27
  · subst hj27
    refine lv_tableIn (tgt := 977) hx hb dL_law_33 (by decide) (by decide) rfl (by decide) ?_
    exact law_27 C0 hL hKN hZ hXI hMI hi0 hi6 hc hs hP hD hS hl kk
  by_cases hj28 : j = 28
  · subst hj28
    refine lv_tableIn (tgt := 990) hx hb dL_law_33 (by decide) (by decide) rfl (by decide) ?_
    exact law_28 C0 hL hKN hZ hXI hMI hi0 hi6 hc hs hP hD hS hl kk
  by_cases hj29 : j = 29
  · subst hj29
    refine lv_tableIn (tgt := 1003) hx hb dL_law_33 (by decide) (by decide) rfl (by decide) ?_
    exact law_29 C0 hL hKN hZ hXI hMI hi0 hi6 hc hs hP hD hS hl kk
  by_cases hj30 : j = 30
  · subst hj30
    refine lv_tableIn (tgt := 1026) hx hb dL_law_33 (by decide) (by decide) rfl (by decide) ?_
    exact law_30 C0 hL hKN hZ hXI hMI hi0 hi6 hc hs hP hD hS hl kk
  by_cases hj31 : j = 31
  · subst hj31
    refine lv_tableIn (tgt := 1039) hx hb dL_law_33 (by decide) (by decide) rfl (by decide) ?_
    exact law_31 C0 hL hKN hZ hXI hMI hi0 hi6 hc hs hP hD hS hl kk
  by_cases hj32 : j = 32
  · subst hj32
    refine lv_tableIn (tgt := 1052) hx hb dL_law_33 (by decide) (by decide) rfl (by decide) ?_
    exact law_32 C0 hL hKN hZ hXI hMI hi0 hi6 hc hs hP hD hS hl kk
  by_cases hj33 : j = 33
  · subst hj33
    refine lv_tableIn (tgt := 1075) hx hb dL_law_33 (by decide) (by decide) rfl (by decide) ?_
    exact law_33 C0 hL hKN hZ hXI hMI hi0 hi6 hc hs hP hD hS hl kk
  by_cases hj34 : j = 34
  · subst hj34
    refine lv_tableIn (tgt := 1098) hx hb dL_law_33 (by decide) (by decide) rfl (by decide) ?_
    exact law_34 C0 hL hKN hZ hXI hMI hi0 hi6 hc hs hP hD hS hl kk
  by_cases hj35 : j = 35
  · subst hj35
    refine lv_tableIn (tgt := 1111) hx hb dL_law_33 (by decide) (by decide) rfl (by decide) ?_
    exact law_35 C0 hL hKN hZ hXI hMI hi0 hi6 hc hs hP hD hS hl kk
  by_cases hj36 : j = 36
  · subst hj36
    refine lv_tableIn (tgt := 1134) hx hb dL_law_33 (by decide) (by decide) rfl (by decide) ?_
    exact law_36 C0 hL hKN hZ hXI hMI hi0 hi6 hc hs hP hD hS hl kk
  by_cases hj37 : j = 37
  · subst hj37
    refine lv_tableIn (tgt := 1157) hx hb dL_law_33 (by decide) (by decide) rfl (by decide) ?_
    exact law_37 C0 hL hKN hZ hXI hMI hi0 hi6 hc hs hP hD hS hl kk
  by_cases hj38 : j = 38
  · subst hj38
    refine lv_tableIn (tgt := 1180) hx hb dL_law_33 (by decide) (by decide) rfl (by decide) ?_
    exact law_38 C0 hL hKN hZ hXI hMI hi0 hi6 hc hs hP hD hS hl kk
  by_cases hj39 : j = 39
  · subst hj39
    refine lv_tableIn (tgt := 1203) hx hb dL_law_33 (by decide) (by decide) rfl (by decide) ?_
    exact law_39 C0 hL hKN hZ hXI hMI hi0 hi6 hc hs hP hD hS hl kk
  by_cases hj40 : j = 40
  · subst hj40
    refine lv_tableIn (tgt := 1216) hx hb dL_law_33 (by decide) (by decide) rfl (by decide) ?_
    exact law_40 C0 hL hKN hZ hXI hMI hi0 hi6 hc hs hP hD hS hl kk
  by_cases hj41 : j = 41
  · subst hj41
    refine lv_tableIn (tgt := 1239) hx hb dL_law_33 (by decide) (by decide) rfl (by decide) ?_
    exact law_41 C0 hL hKN hZ hXI hMI hi0 hi6 hc hs hP hD hS hl kk
  by_cases hj42 : j = 42
  · subst hj42
    refine lv_tableIn (tgt := 1272) hx hb dL_law_33 (by decide) (by decide) rfl (by decide) ?_
    exact law_42 C0 hL hKN hZ hXI hMI hi0 hi6 hc hs hP hD hS hl kk
  by_cases hj43 : j = 43
  · subst hj43
    refine lv_tableIn (tgt := 1295) hx hb dL_law_33 (by decide) (by decide) rfl (by decide) ?_
    exact law_43 C0 hL hKN hZ hXI hMI hi0 hi6 hc hs hP hD hS hl kk
  by_cases hj44 : j = 44
  · subst hj44
    refine lv_tableIn (tgt := 1344) hx hb dL_law_33 (by decide) (by decide) rfl (by decide) ?_
    exact law_44 C0 hL hKN hZ hXI hMI hi0 hi6 hc hs hP hD hS hl kk
  by_cases hj45 : j = 45
  · subst hj45
    refine lv_tableIn (tgt := 1367) hx hb dL_law_33 (by decide) (by decide) rfl (by decide) ?_
    exact law_45 C0 hL hKN hZ hXI hMI hi0 hi6 hc hs hP hD hS hl kk
  by_cases hj46 : j = 46
  · subst hj46
    refine lv_tableIn (tgt := 1390) hx hb dL_law_33 (by decide) (by decide) rfl (by decide) ?_
    exact law_46 C0 hL hKN hZ hXI hMI hi0 hi6 hc hs hP hD hS hl kk
  by_cases hj47 : j = 47
  · subst hj47
    refine lv_tableIn (tgt := 1413) hx hb dL_law_33 (by decide) (by decide) rfl (by decide) ?_
    exact law_47 C0 hL hKN hZ hXI hMI hi0 hi6 hc hs hP hD hS hl kk
  by_cases hj48 : j = 48
  · subst hj48
    refine lv_tableIn (tgt := 1446) hx hb dL_law_33 (by decide) (by decide) rfl (by decide) ?_
    exact law_48 C0 hL hKN hZ hXI hMI hi0 hi6 hc hs hP hD hS hl kk
  by_cases hj49 : j = 49
  · subst hj49
    refine lv_tableIn (tgt := 1479) hx hb dL_law_33 (by decide) (by decide) rfl (by decide) ?_
    exact law_49 C0 hL hKN hZ hXI hMI hi0 hi6 hc hs hP hD hS hl kk
  by_cases hj50 : j = 50
  · subst hj50
    refine lv_tableIn (tgt := 1502) hx hb dL_law_33 (by decide) (by decide) rfl (by decide) ?_
    exact law_50 C0 hL hKN hZ hXI hMI hi0 hi6 hc hs hP hD hS hl kk
  by_cases hj51 : j = 51
  · subst hj51
    refine lv_tableIn (tgt := 1525) hx hb dL_law_33 (by decide) (by decide) rfl (by decide) ?_
    exact law_51 C0 hL hKN hZ hXI hMI hi0 hi6 hc hs hP hD hS hl kk
  have ht : (nI j).toInt = (j : Int) := nI_toInt (by omega)
  refine lv_tableOut (tgt := 1548) hx hb dL_law_33 (by rw [ht]; omega) (by decide) ?_
  refine W.widen (k := cells + 8) (n := slots + 773) (by omega) (by omega) ?_
  exact kk t WX WM H locs hXI hMI hP hD hS
set_option maxHeartbeats 4000000 in
set_option maxRecDepth 100000 in
/-- the loop: n rounds are left at most -/
theorem law_loop {p : Program} {l : Launch} {e : Env} {s : State} {m : MethodId} {below : List Frame} {meth : Method} {c : Code} {b L : Nat} {xs : Nat → Int32} {dC : Nat → ClassId} {dI : Nat → Nat → Nat} {cyB cyI cyJ cyZ cyO : ClassId} {adK adV : Nat → Nat} (C0 : lw_At p s m meth c b L xs) (hL : L ≤ 3072) (hKN : KN (dC, dI) (kT cyB cyI cyJ cyZ cyO) s) (hZ : ZS adK adV (fun q : Nat => s.heap.size ≤ q) s s.heap) {oX oM : Nat} (n : Nat) : ∀ {i t : Int32} {WX WM : va_W} {cells slots : Nat} {H : Heap} {locs : List Loc} {ls : Array Slot}, 0 ≤ i.toInt → (L : Int) - i.toInt ≤ 6 * n → i.toInt ≤ 3078 → cells + 8 * n ≤ 600000 → slots + 773 * n ≤ 7302250 → XI cyB cyI cyJ cyZ cyO oX t WX → MI cyB cyI cyJ cyZ cyO oM t WM → va_P (dC, dI) vwCl (WX ++ WM) H → va_D (fun q : Nat => s.heap.size ≤ q) (WX ++ WM) → va_S (fun q : Nat => s.heap.size ≤ q) s.heap H locs → lv_has ls 4 [(3, .int i), (2, .ref oM), (1, .ref oX), (0, .ref b)] → W p l e room_1 s m #[Value.ref b] below meth c H locs cells slots (lw_Z below #[Value.ref b] s) (F0 m 18 ls []) := by
  obtain ⟨hx, hb, hr, hml, hown, hts, hX, hbl, hlocks, hgv⟩ := id C0
  have hbA : ¬ (fun q : Nat => s.heap.size ≤ q) b := Nat.not_le.mpr hbl
  have hLn : (Int32.ofNat L).toInt = (L : Int) := by first | exact nI_toInt (by omega) | exact Int32.toInt_ofNat_of_lt (by omega)
  induction n with
  | zero =>
    intro i t WX WM cells slots H locs ls hi0 hn hi1 hc hs hXI hMI hP hD hS hl
    refine lv_iload_n hx hb dL_law_18 rfl (lv_at hl 0 rfl) ?_
    refine lv_aload_n hx hb dL_law_19 rfl (lv_at hl 3 rfl) ?_
    refine va_slen hx hb hX hbl hbA hS dL_law_20 ?_
    refine lv_bipush (v := 6) hx hb dL_law_21 (by decide) ?_
    refine lv_isub hx hb dL_law_23 ?_
    refine lv_topi (fun z ez => ?_)
    have tz : z.toInt = (L : Int) - 6 := ti_sub ez hLn (by decide) (by omega) (by omega)
    refine lv_icmp_gt (tgt := 1554) hx hb dL_law_24 (by decide) (fun c1 => ?_) (fun c1 => ?_)
    · refine lv_iconst (v := 1) hx hb dL_law_1554 (by decide) ?_
      refine va_forget (fun q hq => hS.2.2 q hq) ?_
      refine W.widen (k := 600000) (n := 7302250) (by omega) (by omega) ?_
      exact lw_ret hx hb hr hlocks dL_law_1555
    · have c2 := i_nlt (a := (L : Int) - 6) (b := i.toInt) c1 tz rfl
      exfalso; omega
  | succ n ih =>
    intro i t WX WM cells slots H locs ls hi0 hn hi1 hc hs hXI hMI hP hD hS hl
    refine lv_iload_n hx hb dL_law_18 rfl (lv_at hl 0 rfl) ?_
    refine lv_aload_n hx hb dL_law_19 rfl (lv_at hl 3 rfl) ?_
    refine va_slen hx hb hX hbl hbA hS dL_law_20 ?_
    refine lv_bipush (v := 6) hx hb dL_law_21 (by decide) ?_
    refine lv_isub hx hb dL_law_23 ?_
    refine lv_topi (fun z ez => ?_)
    have tz : z.toInt = (L : Int) - 6 := ti_sub ez hLn (by decide) (by omega) (by omega)
    refine lv_icmp_gt (tgt := 1554) hx hb dL_law_24 (by decide) (fun c1 => ?_) (fun c1 => ?_)
    · refine lv_iconst (v := 1) hx hb dL_law_1554 (by decide) ?_
      refine va_forget (fun q hq => hS.2.2 q hq) ?_
      refine W.widen (k := 600000) (n := 7302250) (by omega) (by omega) ?_
      exact lw_ret hx hb hr hlocks dL_law_1555
    · have c2 := i_nlt (a := (L : Int) - 6) (b := i.toInt) c1 tz rfl
      refine lv_aload_n hx hb dL_law_27 rfl (lv_at hl 3 rfl) ?_
      refine lv_iload_n hx hb dL_law_28 rfl (lv_at hl 0 rfl) ?_
      refine va_sld hx hb hX hbl hbA hS (vp_i rfl (by omega) (by omega)) dL_law_29 ?_
      refine lv_bipush (v := 63) hx hb dL_law_30 (by decide) ?_
      refine lv_iand hx hb dL_law_32 ?_
      refine law_sw C0 hL hKN hZ hXI hMI hi0 (by omega) (by omega) (by omega) hP hD hS hl ?_
      intro t WX WM H locs hXI hMI hP hD hS
      refine lv_iinc (v := i + 6) (lv' := [(3, .int (i + 6)), (2, .ref oM), (1, .ref oX), (0, .ref b)]) hx hb dL_law_1548 hl (k := 0) rfl (by rw [show Int32.ofInt 6 = 6 by decide]) (by decide) rfl (fun ls hl => ?_)
      refine lv_goto (tgt := 18) hx hb dL_law_1551 (by decide) ?_
      have t6 : (i + 6).toInt = i.toInt + 6 := ti_add rfl rfl (by decide) (by omega) (by omega)
      exact ih (by omega) (by omega) (by omega) (by omega) (by omega) hXI hMI hP hD hS hl
theorem gd_c_C_init : Gd wq_c_C_init := gd_c (gd_a (gd_o (by decide +kernel)) (gd_a gd_k_X1_init_v3 (gd_a gd_k_X1_init_v4 (gd_a gd_k_X2_init_v2 (gd_a gd_k_X3_init_v2 (gd_a gd_k_X5_init_v13 (gd_a gd_k_X4_init_v2 (gd_a gd_k_X6_begin_v3 (gd_a gd_u (gd_a gd_u (gd_a gd_u (gd_a gd_u (gd_a gd_u (gd_a gd_u gd_0))))))))))))))
theorem gd_c_M_init : Gd wq_c_M_init := gd_c (gd_a (gd_o (by decide +kernel)) (gd_a gd_k_X7_clearBank_v3 (gd_a gd_k_X7_startAnew_v3 (gd_a gd_u gd_0))))

set_option maxHeartbeats 4000000 in
set_option maxRecDepth 100000 in
/-- THE LAW, from its entry -/
theorem whole_start {p : Program} {e : Env} {s : State} {m : MethodId} {below : List Frame} {meth : Method} {c : Code} (l : Launch) {b L : Nat} {xs : Nat → Int32} (hL : L ≤ 3072) (C0 : lw_At p s m meth c b L xs) : W p l e room_1 s m #[Value.ref b] below meth c s.heap [] 0 0 (lw_Z below #[Value.ref b] s) (entryFrame m ([Value.ref b] : List Value).toArray 4) := by
  obtain ⟨hx, hb, hr, hml, hown, hts, hX, hbl, hlocks, hgv⟩ := id C0
  obtain ⟨adK, adV, hZ⟩ := zs_start C0
  have hA : ∀ q : Nat, s.heap.size ≤ q → (fun q : Nat => s.heap.size ≤ q) q := fun _ h => h
  have hfix : CallFix p m c code 4 s #[Value.ref b] lw_tbl R_law := ⟨hx, hb, hml, hown, hts⟩
  obtain ⟨c0, iS0, hKn0⟩ := u_known (C := RX0) (T := TX0) (N := 4) (n := 4) hts lf_X0 (hts _ tw_320)
  obtain ⟨c1, iS1, hKn1⟩ := u_known (C := RX1) (T := TX1) (N := 11) (n := 11) hts lf_X1 (hts _ tw_321)
  obtain ⟨c2, iS2, hKn2⟩ := u_known (C := RX2) (T := TX2) (N := 11) (n := 11) hts lf_X2 (hts _ tw_322)
  obtain ⟨c3, iS3, hKn3⟩ := u_known (C := RX3) (T := TX3) (N := 2) (n := 2) hts lf_X3 (hts _ tw_323)
  obtain ⟨c4, iS4, hKn4⟩ := u_known (C := RX4) (T := TX4) (N := 5) (n := 5) hts lf_X4 (hts _ tw_324)
  obtain ⟨c5, iS5, hKn5⟩ := u_known (C := RX5) (T := TX5) (N := 13) (n := 13) hts lf_X5 (hts _ tw_325)
  obtain ⟨c6, iS6, hKn6⟩ := u_known (C := RX6) (T := TX6) (N := 20) (n := 20) hts lf_X6 (hts _ tw_326)
  obtain ⟨c7, iS7, hKn7⟩ := u_known (C := RX7) (T := TX7) (N := 59) (n := 59) hts lf_X7 (hts _ tw_327)
  obtain ⟨dC, dI, hKc⟩ : ∃ (dC : Nat → ClassId) (dI : Nat → Nat → Nat), ∀ (k : Nat) (q : vw_C), vwCl[k]? = some q → u_Kn s q.1 q.2.1 q.2.2 (dC k) (dI k) := by
    refine ⟨(fun k => match k with | 0 => c0 | 1 => c1 | 2 => c2 | 3 => c3 | 4 => c4 | 5 => c5 | 6 => c6 | _ => c7), (fun k => match k with | 0 => iS0 | 1 => iS1 | 2 => iS2 | 3 => iS3 | 4 => iS4 | 5 => iS5 | 6 => iS6 | _ => iS7), ?_⟩
    intro k q hq
    match k, hq with
    | 0, hq => cases hq; exact hKn0
    | 1, hq => cases hq; exact hKn1
    | 2, hq => cases hq; exact hKn2
    | 3, hq => cases hq; exact hKn3
    | 4, hq => cases hq; exact hKn4
    | 5, hq => cases hq; exact hKn5
    | 6, hq => cases hq; exact hKn6
    | 7, hq => cases hq; exact hKn7
    | k + 8, hq => simp [vwCl] at hq
  obtain ⟨cyB, hyB⟩ := arrK (ty := .byte) rfl (hts _ tw_328)
  obtain ⟨cyI, hyI⟩ := arrK (ty := .int) rfl (hts _ tw_329)
  obtain ⟨cyJ, hyJ⟩ := arrK (ty := .long) rfl (hts _ tw_330)
  obtain ⟨cyZ, hyZ⟩ := arrK (ty := .boolean) rfl (hts _ tw_331)
  have hAO : va_AO RX5 s := va_AO.of (hts _ tw_332)
  obtain ⟨cyO, hyO⟩ := arrO hAO
  have hK : va_K (dC, dI) vwCl (kT cyB cyI cyJ cyZ cyO) s := by
    refine ⟨hKc, fun k q hq => ?_⟩
    match k, hq with
    | 0, hq => cases hq; exact hyB
    | 1, hq => cases hq; exact hyI
    | 2, hq => cases hq; exact hyJ
    | 3, hq => cases hq; exact hyZ
    | 4, hq => cases hq; exact hyO
    | k + 5, hq => simp at hq
  have hKN : KN (dC, dI) (kT cyB cyI cyJ cyZ cyO) s := ⟨hK, va_Nw.of rfl (hts _ tw_333), va_Nw.of rfl (hts _ tw_334), va_Nw.of rfl (hts _ tw_335), hAO⟩
  have hS : va_S (fun q : Nat => s.heap.size ≤ q) s.heap s.heap [] := va_S.rf
  have hP : va_P (dC, dI) vwCl [] s.heap := fun k q h => by simp at h
  have hD : va_D (fun q : Nat => s.heap.size ≤ q) [] := ⟨fun i j p q h => by simp at h, fun k q h => by simp at h⟩
  have hl := lv_entry ([.ref b]) (n := 4) (Nat.le_of_ble_eq_true rfl)
  rw [lg_entry_eq]
  generalize (lg_sl ([.ref b]) ++ List.replicate (4 - (lg_sl ([.ref b])).length) Slot.unset).toArray = ls at hl ⊢
  have hl : lv_has ls 4 [(0, .ref b)] := hl
  refine va_new (ci := 6) (fs := [.null, .int 0, .null, .null, .null, .null, .null, .int 0, .int 0, .null, .null, .null, .null, .null, .int 0, .null, .int 0, .null, .null, .int 0]) (C := RX6) (T := TX6) (N := 20) hx hb hts lf_X6 tyX6 tyX6_ok hown (hts _ tw_336) (hts _ tw_326) (hts _ tw_3) hK hP hD hS hA rfl (by decide) (Nat.le_of_ble_eq_true rfl) (Nat.le_of_ble_eq_true rfl) dL_law_0 (fun h0 H hP hD hS => ?_)
  have hP : va_P (dC, dI) vwCl [(h0, .inr (6, [.null, .int 0, .null, .null, .null, .null, .null, .int 0, .int 0, .null, .null, .null, .null, .null, .int 0, .null, .int 0, .null, .null, .int 0]))] H := hP
  have hD : va_D (fun q : Nat => s.heap.size ≤ q) [(h0, .inr (6, [.null, .int 0, .null, .null, .null, .null, .null, .int 0, .int 0, .null, .null, .null, .null, .null, .int 0, .null, .int 0, .null, .null, .int 0]))] := hD
  refine W.widen (k := 1) (n := 20) (by omega) (by omega) ?_
  refine lv_dup hx hb dL_law_3 rfl ?_
  refine gf_v (wr := []) (va_runI (As := []) (rest := [.ref h0]) hfix (c_C_init l dC dI cyB cyI cyJ cyZ cyO h0 _) (cwI 0 hts (gi_I tb_c_C_init gd_c_C_init) rfl rfl rfl (hts _ tw_3) (hts _ tw_337) (hts _ tw_338) rfl (by decide +kernel) ⟨Nat.le_of_ble_eq_true rfl, Nat.le_of_ble_eq_true rfl⟩) (g_preS hKN hP hD [0] rfl (by decide)) rfl rfl hl.1 rfl (lv_room (Nat.le_of_ble_eq_true rfl)) dL_law_4 ⟨Nat.le_of_ble_eq_true rfl, Nat.le_of_ble_eq_true rfl⟩) hP hD hS hA [0] [] rfl rfl (by decide) (by decide) (fun u H locs qu hP hD hS => ?_)
  have hP : va_P (dC, dI) vwCl [(h0, .inr (6, [.ref (u 0), .int 0, .ref (u 33), .ref (u 8), .ref (u 16), .ref (u 34), .ref (u 35), .int 0, .int 0, .ref (u 43), .ref (u 17), .ref (u 25), .ref (u 36), .ref (u 26), .int 0, .ref (u 27), .int 0, .ref (u 37), .ref (u 32), .int 0])), (u 0, .inl (cyB, 1600, .inl (fun _ => 0))), (u 1, .inl (cyI, 6, .inl (fun _ => 0))), (u 2, .inl (cyJ, 8, .inr (.inl (fun _ => 0)))), (u 3, .inl (cyJ, 4, .inr (.inl (fun _ => 0)))), (u 4, .inl (cyI, 270, .inl (fun _ => 0))), (u 5, .inl (cyI, 31, .inl (fun _ => 0))), (u 6, .inl (cyI, 6, .inl (fun _ => 0))), (u 7, .inr (0, [.ref (u 4), .ref (u 5), .ref (u 6), .int 0])), (u 8, .inr (1, [.ref (u 9), .ref (u 10), .ref (u 11), .ref (u 15), .int 0, .int 0, .int 0, .int 0, .int 2, .int 0, .int 0])), (u 9, .inl (cyI, 6, .inl (fun _ => 0))), (u 10, .inl (cyJ, 8, .inr (.inl (fun _ => 0)))), (u 11, .inl (cyJ, 4, .inr (.inl (fun _ => 0)))), (u 12, .inl (cyI, 270, .inl (fun _ => 0))), (u 13, .inl (cyI, 31, .inl (fun _ => 0))), (u 14, .inl (cyI, 6, .inl (fun _ => 0))), (u 15, .inr (0, [.ref (u 12), .ref (u 13), .ref (u 14), .int 0])), (u 16, .inr (2, [.ref (u 0), .int 0, .int 0, .ref (u 8), .int 0, .int 0, .int 0, .long 0, .int 0, .int 0, .int (-1)])), (u 17, .inr (5, [.ref (u 18), .ref (u 19), .ref (u 20), .ref (u 21), .ref (u 22), .ref (u 23), .ref (u 24), .int 0, .int (-1), .int 0, .int 0, .int 0, .int 0])), (u 18, .inl (cyI, 6, .inl (fun _ => 0))), (u 19, .inl (cyI, 8, .inl (fun _ => 0))), (u 20, .inl (cyI, 8, .inl (fun _ => 0))), (u 21, .inl (cyI, 328, .inl (fun _ => 0))), (u 22, .inl (cyI, 328, .inl (fun _ => 0))), (u 23, .inl (cyI, 41, .inl (fun _ => 0))), (u 24, .inl (cyI, 41, .inl (fun _ => 0))), (u 25, .inl (cyO, 3, .inr (.inr (.inr (.inr (fun _ => none)))))), (u 26, .inl (cyI, 6, .inl (fun _ => 0))), (u 27, .inl (cyI, 6, .inl (fun _ => 0))), (u 28, .inl (cyI, 30, .inl (fun _ => 0))), (u 29, .inl (cyZ, 30, .inl (fun _ => 0))), (u 30, .inl (cyI, 30, .inl (fun _ => 0))), (u 31, .inl (cyI, 30, .inl (fun _ => 0))), (u 32, .inl (cyI, 7, .inl (fun _ => 0))), (u 33, .inr (1, [.ref (u 1), .ref (u 2), .ref (u 3), .ref (u 7), .int 0, .int 0, .int 0, .int 0, .int 2, .int 0, .int 0])), (u 34, .inr (3, [.ref (u 33), .int 0])), (u 35, .inl (cyO, 41, .inr (.inr (.inr (.inr (va_up (fun _ => none) 0 (some (u 43)))))))), (u 36, .inl (cyZ, 3, .inl (fun _ => 0))), (u 37, .inr (4, [.ref (u 28), .ref (u 29), .ref (u 30), .ref (u 31), .int 0])), (u 38, .inl (cyI, 6, .inl (fun _ => 0))), (u 39, .inl (cyI, 328, .inl (fun _ => 0))), (u 40, .inl (cyI, 328, .inl (fun _ => 0))), (u 41, .inl (cyI, 41, .inl (fun _ => 0))), (u 42, .inl (cyI, 41, .inl (fun _ => 0))), (u 43, .inr (5, [.ref (u 38), .ref (u 44), .ref (u 45), .ref (u 39), .ref (u 40), .ref (u 41), .ref (u 42), .int 0, .int (-1), .int 0, .int 0, .int 0, .int 0])), (u 44, .inl (cyI, 8, .inl (fun _ => 0))), (u 45, .inl (cyI, 8, .inl (fun _ => 0)))] H := hP
  have hD : va_D (fun q : Nat => s.heap.size ≤ q) [(h0, .inr (6, [.ref (u 0), .int 0, .ref (u 33), .ref (u 8), .ref (u 16), .ref (u 34), .ref (u 35), .int 0, .int 0, .ref (u 43), .ref (u 17), .ref (u 25), .ref (u 36), .ref (u 26), .int 0, .ref (u 27), .int 0, .ref (u 37), .ref (u 32), .int 0])), (u 0, .inl (cyB, 1600, .inl (fun _ => 0))), (u 1, .inl (cyI, 6, .inl (fun _ => 0))), (u 2, .inl (cyJ, 8, .inr (.inl (fun _ => 0)))), (u 3, .inl (cyJ, 4, .inr (.inl (fun _ => 0)))), (u 4, .inl (cyI, 270, .inl (fun _ => 0))), (u 5, .inl (cyI, 31, .inl (fun _ => 0))), (u 6, .inl (cyI, 6, .inl (fun _ => 0))), (u 7, .inr (0, [.ref (u 4), .ref (u 5), .ref (u 6), .int 0])), (u 8, .inr (1, [.ref (u 9), .ref (u 10), .ref (u 11), .ref (u 15), .int 0, .int 0, .int 0, .int 0, .int 2, .int 0, .int 0])), (u 9, .inl (cyI, 6, .inl (fun _ => 0))), (u 10, .inl (cyJ, 8, .inr (.inl (fun _ => 0)))), (u 11, .inl (cyJ, 4, .inr (.inl (fun _ => 0)))), (u 12, .inl (cyI, 270, .inl (fun _ => 0))), (u 13, .inl (cyI, 31, .inl (fun _ => 0))), (u 14, .inl (cyI, 6, .inl (fun _ => 0))), (u 15, .inr (0, [.ref (u 12), .ref (u 13), .ref (u 14), .int 0])), (u 16, .inr (2, [.ref (u 0), .int 0, .int 0, .ref (u 8), .int 0, .int 0, .int 0, .long 0, .int 0, .int 0, .int (-1)])), (u 17, .inr (5, [.ref (u 18), .ref (u 19), .ref (u 20), .ref (u 21), .ref (u 22), .ref (u 23), .ref (u 24), .int 0, .int (-1), .int 0, .int 0, .int 0, .int 0])), (u 18, .inl (cyI, 6, .inl (fun _ => 0))), (u 19, .inl (cyI, 8, .inl (fun _ => 0))), (u 20, .inl (cyI, 8, .inl (fun _ => 0))), (u 21, .inl (cyI, 328, .inl (fun _ => 0))), (u 22, .inl (cyI, 328, .inl (fun _ => 0))), (u 23, .inl (cyI, 41, .inl (fun _ => 0))), (u 24, .inl (cyI, 41, .inl (fun _ => 0))), (u 25, .inl (cyO, 3, .inr (.inr (.inr (.inr (fun _ => none)))))), (u 26, .inl (cyI, 6, .inl (fun _ => 0))), (u 27, .inl (cyI, 6, .inl (fun _ => 0))), (u 28, .inl (cyI, 30, .inl (fun _ => 0))), (u 29, .inl (cyZ, 30, .inl (fun _ => 0))), (u 30, .inl (cyI, 30, .inl (fun _ => 0))), (u 31, .inl (cyI, 30, .inl (fun _ => 0))), (u 32, .inl (cyI, 7, .inl (fun _ => 0))), (u 33, .inr (1, [.ref (u 1), .ref (u 2), .ref (u 3), .ref (u 7), .int 0, .int 0, .int 0, .int 0, .int 2, .int 0, .int 0])), (u 34, .inr (3, [.ref (u 33), .int 0])), (u 35, .inl (cyO, 41, .inr (.inr (.inr (.inr (va_up (fun _ => none) 0 (some (u 43)))))))), (u 36, .inl (cyZ, 3, .inl (fun _ => 0))), (u 37, .inr (4, [.ref (u 28), .ref (u 29), .ref (u 30), .ref (u 31), .int 0])), (u 38, .inl (cyI, 6, .inl (fun _ => 0))), (u 39, .inl (cyI, 328, .inl (fun _ => 0))), (u 40, .inl (cyI, 328, .inl (fun _ => 0))), (u 41, .inl (cyI, 41, .inl (fun _ => 0))), (u 42, .inl (cyI, 41, .inl (fun _ => 0))), (u 43, .inr (5, [.ref (u 38), .ref (u 44), .ref (u 45), .ref (u 39), .ref (u 40), .ref (u 41), .ref (u 42), .int 0, .int (-1), .int 0, .int 0, .int 0, .int 0])), (u 44, .inl (cyI, 8, .inl (fun _ => 0))), (u 45, .inl (cyI, 8, .inl (fun _ => 0)))] := hD
  refine W.widen (k := 47) (n := 4050) (by omega) (by omega) ?_
  refine lv_astore_n (lv' := [(1, .ref h0), (0, .ref b)]) hx hb dL_law_7 rfl hl (by decide) rfl (fun ls hl => ?_)
  refine va_new (ci := 7) (fs := [.null, .null, .int 0, .int 0, .int 0, .int 0, .int 0, .int 0, .int 0, .int 0, .long 0, .null, .null, .null, .null, .null, .null, .null, .null, .null, .null, .null, .null, .null, .null, .null, .null, .null, .null, .int 0, .int 0, .int 0, .int 0, .int 0, .int 0, .int 0, .int 0, .int 0, .int 0, .int 0, .null, .null, .int 0, .int 0, .null, .int 0, .int 0, .null, .null, .int 0, .null, .null, .null, .null, .null, .int 0, .int 0, .null, .null]) (C := RX7) (T := TX7) (N := 59) hx hb hts lf_X7 tyX7 tyX7_ok hown (hts _ tw_339) (hts _ tw_327) (hts _ tw_7) hK hP hD hS hA rfl (by decide) (Nat.le_of_ble_eq_true rfl) (Nat.le_of_ble_eq_true rfl) dL_law_8 (fun h1 H hP hD hS => ?_)
  have hP : va_P (dC, dI) vwCl [(h0, .inr (6, [.ref (u 0), .int 0, .ref (u 33), .ref (u 8), .ref (u 16), .ref (u 34), .ref (u 35), .int 0, .int 0, .ref (u 43), .ref (u 17), .ref (u 25), .ref (u 36), .ref (u 26), .int 0, .ref (u 27), .int 0, .ref (u 37), .ref (u 32), .int 0])), (u 0, .inl (cyB, 1600, .inl (fun _ => 0))), (u 1, .inl (cyI, 6, .inl (fun _ => 0))), (u 2, .inl (cyJ, 8, .inr (.inl (fun _ => 0)))), (u 3, .inl (cyJ, 4, .inr (.inl (fun _ => 0)))), (u 4, .inl (cyI, 270, .inl (fun _ => 0))), (u 5, .inl (cyI, 31, .inl (fun _ => 0))), (u 6, .inl (cyI, 6, .inl (fun _ => 0))), (u 7, .inr (0, [.ref (u 4), .ref (u 5), .ref (u 6), .int 0])), (u 8, .inr (1, [.ref (u 9), .ref (u 10), .ref (u 11), .ref (u 15), .int 0, .int 0, .int 0, .int 0, .int 2, .int 0, .int 0])), (u 9, .inl (cyI, 6, .inl (fun _ => 0))), (u 10, .inl (cyJ, 8, .inr (.inl (fun _ => 0)))), (u 11, .inl (cyJ, 4, .inr (.inl (fun _ => 0)))), (u 12, .inl (cyI, 270, .inl (fun _ => 0))), (u 13, .inl (cyI, 31, .inl (fun _ => 0))), (u 14, .inl (cyI, 6, .inl (fun _ => 0))), (u 15, .inr (0, [.ref (u 12), .ref (u 13), .ref (u 14), .int 0])), (u 16, .inr (2, [.ref (u 0), .int 0, .int 0, .ref (u 8), .int 0, .int 0, .int 0, .long 0, .int 0, .int 0, .int (-1)])), (u 17, .inr (5, [.ref (u 18), .ref (u 19), .ref (u 20), .ref (u 21), .ref (u 22), .ref (u 23), .ref (u 24), .int 0, .int (-1), .int 0, .int 0, .int 0, .int 0])), (u 18, .inl (cyI, 6, .inl (fun _ => 0))), (u 19, .inl (cyI, 8, .inl (fun _ => 0))), (u 20, .inl (cyI, 8, .inl (fun _ => 0))), (u 21, .inl (cyI, 328, .inl (fun _ => 0))), (u 22, .inl (cyI, 328, .inl (fun _ => 0))), (u 23, .inl (cyI, 41, .inl (fun _ => 0))), (u 24, .inl (cyI, 41, .inl (fun _ => 0))), (u 25, .inl (cyO, 3, .inr (.inr (.inr (.inr (fun _ => none)))))), (u 26, .inl (cyI, 6, .inl (fun _ => 0))), (u 27, .inl (cyI, 6, .inl (fun _ => 0))), (u 28, .inl (cyI, 30, .inl (fun _ => 0))), (u 29, .inl (cyZ, 30, .inl (fun _ => 0))), (u 30, .inl (cyI, 30, .inl (fun _ => 0))), (u 31, .inl (cyI, 30, .inl (fun _ => 0))), (u 32, .inl (cyI, 7, .inl (fun _ => 0))), (u 33, .inr (1, [.ref (u 1), .ref (u 2), .ref (u 3), .ref (u 7), .int 0, .int 0, .int 0, .int 0, .int 2, .int 0, .int 0])), (u 34, .inr (3, [.ref (u 33), .int 0])), (u 35, .inl (cyO, 41, .inr (.inr (.inr (.inr (va_up (fun _ => none) 0 (some (u 43)))))))), (u 36, .inl (cyZ, 3, .inl (fun _ => 0))), (u 37, .inr (4, [.ref (u 28), .ref (u 29), .ref (u 30), .ref (u 31), .int 0])), (u 38, .inl (cyI, 6, .inl (fun _ => 0))), (u 39, .inl (cyI, 328, .inl (fun _ => 0))), (u 40, .inl (cyI, 328, .inl (fun _ => 0))), (u 41, .inl (cyI, 41, .inl (fun _ => 0))), (u 42, .inl (cyI, 41, .inl (fun _ => 0))), (u 43, .inr (5, [.ref (u 38), .ref (u 44), .ref (u 45), .ref (u 39), .ref (u 40), .ref (u 41), .ref (u 42), .int 0, .int (-1), .int 0, .int 0, .int 0, .int 0])), (u 44, .inl (cyI, 8, .inl (fun _ => 0))), (u 45, .inl (cyI, 8, .inl (fun _ => 0))), (h1, .inr (7, [.null, .null, .int 0, .int 0, .int 0, .int 0, .int 0, .int 0, .int 0, .int 0, .long 0, .null, .null, .null, .null, .null, .null, .null, .null, .null, .null, .null, .null, .null, .null, .null, .null, .null, .null, .int 0, .int 0, .int 0, .int 0, .int 0, .int 0, .int 0, .int 0, .int 0, .int 0, .int 0, .null, .null, .int 0, .int 0, .null, .int 0, .int 0, .null, .null, .int 0, .null, .null, .null, .null, .null, .int 0, .int 0, .null, .null]))] H := hP
  have hD : va_D (fun q : Nat => s.heap.size ≤ q) [(h0, .inr (6, [.ref (u 0), .int 0, .ref (u 33), .ref (u 8), .ref (u 16), .ref (u 34), .ref (u 35), .int 0, .int 0, .ref (u 43), .ref (u 17), .ref (u 25), .ref (u 36), .ref (u 26), .int 0, .ref (u 27), .int 0, .ref (u 37), .ref (u 32), .int 0])), (u 0, .inl (cyB, 1600, .inl (fun _ => 0))), (u 1, .inl (cyI, 6, .inl (fun _ => 0))), (u 2, .inl (cyJ, 8, .inr (.inl (fun _ => 0)))), (u 3, .inl (cyJ, 4, .inr (.inl (fun _ => 0)))), (u 4, .inl (cyI, 270, .inl (fun _ => 0))), (u 5, .inl (cyI, 31, .inl (fun _ => 0))), (u 6, .inl (cyI, 6, .inl (fun _ => 0))), (u 7, .inr (0, [.ref (u 4), .ref (u 5), .ref (u 6), .int 0])), (u 8, .inr (1, [.ref (u 9), .ref (u 10), .ref (u 11), .ref (u 15), .int 0, .int 0, .int 0, .int 0, .int 2, .int 0, .int 0])), (u 9, .inl (cyI, 6, .inl (fun _ => 0))), (u 10, .inl (cyJ, 8, .inr (.inl (fun _ => 0)))), (u 11, .inl (cyJ, 4, .inr (.inl (fun _ => 0)))), (u 12, .inl (cyI, 270, .inl (fun _ => 0))), (u 13, .inl (cyI, 31, .inl (fun _ => 0))), (u 14, .inl (cyI, 6, .inl (fun _ => 0))), (u 15, .inr (0, [.ref (u 12), .ref (u 13), .ref (u 14), .int 0])), (u 16, .inr (2, [.ref (u 0), .int 0, .int 0, .ref (u 8), .int 0, .int 0, .int 0, .long 0, .int 0, .int 0, .int (-1)])), (u 17, .inr (5, [.ref (u 18), .ref (u 19), .ref (u 20), .ref (u 21), .ref (u 22), .ref (u 23), .ref (u 24), .int 0, .int (-1), .int 0, .int 0, .int 0, .int 0])), (u 18, .inl (cyI, 6, .inl (fun _ => 0))), (u 19, .inl (cyI, 8, .inl (fun _ => 0))), (u 20, .inl (cyI, 8, .inl (fun _ => 0))), (u 21, .inl (cyI, 328, .inl (fun _ => 0))), (u 22, .inl (cyI, 328, .inl (fun _ => 0))), (u 23, .inl (cyI, 41, .inl (fun _ => 0))), (u 24, .inl (cyI, 41, .inl (fun _ => 0))), (u 25, .inl (cyO, 3, .inr (.inr (.inr (.inr (fun _ => none)))))), (u 26, .inl (cyI, 6, .inl (fun _ => 0))), (u 27, .inl (cyI, 6, .inl (fun _ => 0))), (u 28, .inl (cyI, 30, .inl (fun _ => 0))), (u 29, .inl (cyZ, 30, .inl (fun _ => 0))), (u 30, .inl (cyI, 30, .inl (fun _ => 0))), (u 31, .inl (cyI, 30, .inl (fun _ => 0))), (u 32, .inl (cyI, 7, .inl (fun _ => 0))), (u 33, .inr (1, [.ref (u 1), .ref (u 2), .ref (u 3), .ref (u 7), .int 0, .int 0, .int 0, .int 0, .int 2, .int 0, .int 0])), (u 34, .inr (3, [.ref (u 33), .int 0])), (u 35, .inl (cyO, 41, .inr (.inr (.inr (.inr (va_up (fun _ => none) 0 (some (u 43)))))))), (u 36, .inl (cyZ, 3, .inl (fun _ => 0))), (u 37, .inr (4, [.ref (u 28), .ref (u 29), .ref (u 30), .ref (u 31), .int 0])), (u 38, .inl (cyI, 6, .inl (fun _ => 0))), (u 39, .inl (cyI, 328, .inl (fun _ => 0))), (u 40, .inl (cyI, 328, .inl (fun _ => 0))), (u 41, .inl (cyI, 41, .inl (fun _ => 0))), (u 42, .inl (cyI, 41, .inl (fun _ => 0))), (u 43, .inr (5, [.ref (u 38), .ref (u 44), .ref (u 45), .ref (u 39), .ref (u 40), .ref (u 41), .ref (u 42), .int 0, .int (-1), .int 0, .int 0, .int 0, .int 0])), (u 44, .inl (cyI, 8, .inl (fun _ => 0))), (u 45, .inl (cyI, 8, .inl (fun _ => 0))), (h1, .inr (7, [.null, .null, .int 0, .int 0, .int 0, .int 0, .int 0, .int 0, .int 0, .int 0, .long 0, .null, .null, .null, .null, .null, .null, .null, .null, .null, .null, .null, .null, .null, .null, .null, .null, .null, .null, .int 0, .int 0, .int 0, .int 0, .int 0, .int 0, .int 0, .int 0, .int 0, .int 0, .int 0, .null, .null, .int 0, .int 0, .null, .int 0, .int 0, .null, .null, .int 0, .null, .null, .null, .null, .null, .int 0, .int 0, .null, .null]))] := hD
  refine W.widen (k := 48) (n := 4109) (by omega) (by omega) ?_
  refine lv_dup hx hb dL_law_11 rfl ?_
  refine gf_v (wr := [(h0, .inr (6, [.ref (u 0), .int 0, .ref (u 33), .ref (u 8), .ref (u 16), .ref (u 34), .ref (u 35), .int 0, .int 0, .ref (u 43), .ref (u 17), .ref (u 25), .ref (u 36), .ref (u 26), .int 0, .ref (u 27), .int 0, .ref (u 37), .ref (u 32), .int 0])), (u 0, .inl (cyB, 1600, .inl (fun _ => 0))), (u 1, .inl (cyI, 6, .inl (fun _ => 0))), (u 2, .inl (cyJ, 8, .inr (.inl (fun _ => 0)))), (u 3, .inl (cyJ, 4, .inr (.inl (fun _ => 0)))), (u 4, .inl (cyI, 270, .inl (fun _ => 0))), (u 5, .inl (cyI, 31, .inl (fun _ => 0))), (u 6, .inl (cyI, 6, .inl (fun _ => 0))), (u 7, .inr (0, [.ref (u 4), .ref (u 5), .ref (u 6), .int 0])), (u 8, .inr (1, [.ref (u 9), .ref (u 10), .ref (u 11), .ref (u 15), .int 0, .int 0, .int 0, .int 0, .int 2, .int 0, .int 0])), (u 9, .inl (cyI, 6, .inl (fun _ => 0))), (u 10, .inl (cyJ, 8, .inr (.inl (fun _ => 0)))), (u 11, .inl (cyJ, 4, .inr (.inl (fun _ => 0)))), (u 12, .inl (cyI, 270, .inl (fun _ => 0))), (u 13, .inl (cyI, 31, .inl (fun _ => 0))), (u 14, .inl (cyI, 6, .inl (fun _ => 0))), (u 15, .inr (0, [.ref (u 12), .ref (u 13), .ref (u 14), .int 0])), (u 16, .inr (2, [.ref (u 0), .int 0, .int 0, .ref (u 8), .int 0, .int 0, .int 0, .long 0, .int 0, .int 0, .int (-1)])), (u 17, .inr (5, [.ref (u 18), .ref (u 19), .ref (u 20), .ref (u 21), .ref (u 22), .ref (u 23), .ref (u 24), .int 0, .int (-1), .int 0, .int 0, .int 0, .int 0])), (u 18, .inl (cyI, 6, .inl (fun _ => 0))), (u 19, .inl (cyI, 8, .inl (fun _ => 0))), (u 20, .inl (cyI, 8, .inl (fun _ => 0))), (u 21, .inl (cyI, 328, .inl (fun _ => 0))), (u 22, .inl (cyI, 328, .inl (fun _ => 0))), (u 23, .inl (cyI, 41, .inl (fun _ => 0))), (u 24, .inl (cyI, 41, .inl (fun _ => 0))), (u 25, .inl (cyO, 3, .inr (.inr (.inr (.inr (fun _ => none)))))), (u 26, .inl (cyI, 6, .inl (fun _ => 0))), (u 27, .inl (cyI, 6, .inl (fun _ => 0))), (u 28, .inl (cyI, 30, .inl (fun _ => 0))), (u 29, .inl (cyZ, 30, .inl (fun _ => 0))), (u 30, .inl (cyI, 30, .inl (fun _ => 0))), (u 31, .inl (cyI, 30, .inl (fun _ => 0))), (u 32, .inl (cyI, 7, .inl (fun _ => 0))), (u 33, .inr (1, [.ref (u 1), .ref (u 2), .ref (u 3), .ref (u 7), .int 0, .int 0, .int 0, .int 0, .int 2, .int 0, .int 0])), (u 34, .inr (3, [.ref (u 33), .int 0])), (u 35, .inl (cyO, 41, .inr (.inr (.inr (.inr (va_up (fun _ => none) 0 (some (u 43)))))))), (u 36, .inl (cyZ, 3, .inl (fun _ => 0))), (u 37, .inr (4, [.ref (u 28), .ref (u 29), .ref (u 30), .ref (u 31), .int 0])), (u 38, .inl (cyI, 6, .inl (fun _ => 0))), (u 39, .inl (cyI, 328, .inl (fun _ => 0))), (u 40, .inl (cyI, 328, .inl (fun _ => 0))), (u 41, .inl (cyI, 41, .inl (fun _ => 0))), (u 42, .inl (cyI, 41, .inl (fun _ => 0))), (u 43, .inr (5, [.ref (u 38), .ref (u 44), .ref (u 45), .ref (u 39), .ref (u 40), .ref (u 41), .ref (u 42), .int 0, .int (-1), .int 0, .int 0, .int 0, .int 0])), (u 44, .inl (cyI, 8, .inl (fun _ => 0))), (u 45, .inl (cyI, 8, .inl (fun _ => 0)))]) (va_runI (As := []) (rest := [.ref h1]) hfix (c_M_init l dC dI cyB cyI cyJ cyZ cyO h1 _) (cwI 0 hts (gi_I tb_c_M_init gd_c_M_init) rfl rfl rfl (hts _ tw_7) (hts _ tw_340) (hts _ tw_341) rfl (by decide +kernel) ⟨Nat.le_of_ble_eq_true rfl, Nat.le_of_ble_eq_true rfl⟩) (g_preS hKN hP hD [47] rfl (by decide)) rfl rfl hl.1 rfl (lv_room (Nat.le_of_ble_eq_true rfl)) dL_law_12 ⟨Nat.le_of_ble_eq_true rfl, Nat.le_of_ble_eq_true rfl⟩) hP hD hS hA [47] [0, 1, 2, 3, 4, 5, 6, 7, 8, 9, 10, 11, 12, 13, 14, 15, 16, 17, 18, 19, 20, 21, 22, 23, 24, 25, 26, 27, 28, 29, 30, 31, 32, 33, 34, 35, 36, 37, 38, 39, 40, 41, 42, 43, 44, 45, 46] rfl rfl (by decide) (by decide) (fun v H locs qv hP hD hS => ?_)
  refine W.widen (k := 80) (n := 34347) (by omega) (by omega) ?_
  obtain ⟨v, w⟩ := v
  have hP : va_P (dC, dI) vwCl [(h0, .inr (6, [.ref (u 0), .int 0, .ref (u 33), .ref (u 8), .ref (u 16), .ref (u 34), .ref (u 35), .int 0, .int 0, .ref (u 43), .ref (u 17), .ref (u 25), .ref (u 36), .ref (u 26), .int 0, .ref (u 27), .int 0, .ref (u 37), .ref (u 32), .int 0])), (u 0, .inl (cyB, 1600, .inl (fun _ => 0))), (u 1, .inl (cyI, 6, .inl (fun _ => 0))), (u 2, .inl (cyJ, 8, .inr (.inl (fun _ => 0)))), (u 3, .inl (cyJ, 4, .inr (.inl (fun _ => 0)))), (u 4, .inl (cyI, 270, .inl (fun _ => 0))), (u 5, .inl (cyI, 31, .inl (fun _ => 0))), (u 6, .inl (cyI, 6, .inl (fun _ => 0))), (u 7, .inr (0, [.ref (u 4), .ref (u 5), .ref (u 6), .int 0])), (u 8, .inr (1, [.ref (u 9), .ref (u 10), .ref (u 11), .ref (u 15), .int 0, .int 0, .int 0, .int 0, .int 2, .int 0, .int 0])), (u 9, .inl (cyI, 6, .inl (fun _ => 0))), (u 10, .inl (cyJ, 8, .inr (.inl (fun _ => 0)))), (u 11, .inl (cyJ, 4, .inr (.inl (fun _ => 0)))), (u 12, .inl (cyI, 270, .inl (fun _ => 0))), (u 13, .inl (cyI, 31, .inl (fun _ => 0))), (u 14, .inl (cyI, 6, .inl (fun _ => 0))), (u 15, .inr (0, [.ref (u 12), .ref (u 13), .ref (u 14), .int 0])), (u 16, .inr (2, [.ref (u 0), .int 0, .int 0, .ref (u 8), .int 0, .int 0, .int 0, .long 0, .int 0, .int 0, .int (-1)])), (u 17, .inr (5, [.ref (u 18), .ref (u 19), .ref (u 20), .ref (u 21), .ref (u 22), .ref (u 23), .ref (u 24), .int 0, .int (-1), .int 0, .int 0, .int 0, .int 0])), (u 18, .inl (cyI, 6, .inl (fun _ => 0))), (u 19, .inl (cyI, 8, .inl (fun _ => 0))), (u 20, .inl (cyI, 8, .inl (fun _ => 0))), (u 21, .inl (cyI, 328, .inl (fun _ => 0))), (u 22, .inl (cyI, 328, .inl (fun _ => 0))), (u 23, .inl (cyI, 41, .inl (fun _ => 0))), (u 24, .inl (cyI, 41, .inl (fun _ => 0))), (u 25, .inl (cyO, 3, .inr (.inr (.inr (.inr (fun _ => none)))))), (u 26, .inl (cyI, 6, .inl (fun _ => 0))), (u 27, .inl (cyI, 6, .inl (fun _ => 0))), (u 28, .inl (cyI, 30, .inl (fun _ => 0))), (u 29, .inl (cyZ, 30, .inl (fun _ => 0))), (u 30, .inl (cyI, 30, .inl (fun _ => 0))), (u 31, .inl (cyI, 30, .inl (fun _ => 0))), (u 32, .inl (cyI, 7, .inl (fun _ => 0))), (u 33, .inr (1, [.ref (u 1), .ref (u 2), .ref (u 3), .ref (u 7), .int 0, .int 0, .int 0, .int 0, .int 2, .int 0, .int 0])), (u 34, .inr (3, [.ref (u 33), .int 0])), (u 35, .inl (cyO, 41, .inr (.inr (.inr (.inr (va_up (fun _ => none) 0 (some (u 43)))))))), (u 36, .inl (cyZ, 3, .inl (fun _ => 0))), (u 37, .inr (4, [.ref (u 28), .ref (u 29), .ref (u 30), .ref (u 31), .int 0])), (u 38, .inl (cyI, 6, .inl (fun _ => 0))), (u 39, .inl (cyI, 328, .inl (fun _ => 0))), (u 40, .inl (cyI, 328, .inl (fun _ => 0))), (u 41, .inl (cyI, 41, .inl (fun _ => 0))), (u 42, .inl (cyI, 41, .inl (fun _ => 0))), (u 43, .inr (5, [.ref (u 38), .ref (u 44), .ref (u 45), .ref (u 39), .ref (u 40), .ref (u 41), .ref (u 42), .int 0, .int (-1), .int 0, .int 0, .int 0, .int 0])), (u 44, .inl (cyI, 8, .inl (fun _ => 0))), (u 45, .inl (cyI, 8, .inl (fun _ => 0))), (h1, .inr (7, [.ref (v 0), .ref (v 1), .int 0, .int 0, .int 0, .int (-1), .int 0, .int 0, .int 0, .int 0, .long 0, .ref (v 22), .ref (v 30), .ref (v 23), .ref (v 24), .ref (v 25), .ref (v 26), .ref (v 31), .ref (v 27), .ref (v 2), .ref (v 3), .ref (v 4), .ref (v 5), .ref (v 6), .ref (v 7), .ref (v 8), .ref (v 9), .ref (v 10), .ref (v 11), .int 0, .int 0, .int 0, .int 0, .int 0, .int 0, .int 0, .int 0, .int 0, .int 0, .int 0, .ref (v 28), .ref (v 12), .int 0, .int 0, .ref (v 13), .int 0, .int 0, .ref (v 14), .ref (v 15), .int 0, .ref (v 16), .ref (v 17), .ref (v 18), .ref (v 19), .ref (v 20), .int 0, .int 0, .ref (v 21), .ref (v 29)])), (v 0, .inl (cyB, 1620, .inl (fun _ => 0))), (v 1, .inl (cyB, 1600, .inl (fun _ => 0))), (v 2, .inl (cyI, 12, .inl (fun _ => 0))), (v 3, .inl (cyI, 2, .inl (fun _ => 0))), (v 4, .inl (cyI, 2, .inl (fun _ => 0))), (v 5, .inl (cyJ, 16, .inr (.inl (fun _ => 0)))), (v 6, .inl (cyJ, 8, .inr (.inl (fun _ => 0)))), (v 7, .inl (cyI, 1120, .inl (fun _ => 0))), (v 8, .inl (cyI, 1120, .inl (fun _ => 0))), (v 9, .inl (cyI, 90, .inl (fun _ => 0))), (v 10, .inl (cyI, 90, .inl (fun _ => 0))), (v 11, .inl (cyI, 60, .inl (fun _ => 0))), (v 12, .inl (cyI, 520, .inl (fun _ => 0))), (v 13, .inl (cyI, 21320, .inl (fun _ => 0))), (v 14, .inl (cyI, 6, .inl (fun _ => 0))), (v 15, .inl (cyI, 6, .inl (fun _ => 0))), (v 16, .inl (cyI, 427, .inl (fun _ => 0))), (v 17, .inl (cyI, 30, .inl (fun _ => 0))), (v 18, .inl (cyI, 30, .inl (fun _ => 0))), (v 19, .inl (cyI, 30, .inl (fun _ => 0))), (v 20, .inl (cyI, 30, .inl (fun _ => 0))), (v 21, .inl (cyI, 1560, .inl (fun _ => 0))), (v 22, .inl (cyI, 2, .inl (fun _ => 0))), (v 23, .inl (cyI, 2, .inl (fun _ => 0))), (v 24, .inl (cyI, 2, .inl (fun _ => 0))), (v 25, .inl (cyI, 2, .inl (upd (fun _ => 0) 0 2))), (v 26, .inl (cyI, 2, .inl (fun _ => 0))), (v 27, .inl (cyI, 2, .inl (fun _ => 0))), (v 28, .inl (cyI, 520, .inl (w 0))), (v 29, .inl (cyZ, 3, .inl (fun _ => 0))), (v 30, .inl (cyI, 2, .inl (fun _ => 0))), (v 31, .inl (cyI, 2, .inl (fun _ => 0)))] H := hP
  have hD : va_D (fun q : Nat => s.heap.size ≤ q) [(h0, .inr (6, [.ref (u 0), .int 0, .ref (u 33), .ref (u 8), .ref (u 16), .ref (u 34), .ref (u 35), .int 0, .int 0, .ref (u 43), .ref (u 17), .ref (u 25), .ref (u 36), .ref (u 26), .int 0, .ref (u 27), .int 0, .ref (u 37), .ref (u 32), .int 0])), (u 0, .inl (cyB, 1600, .inl (fun _ => 0))), (u 1, .inl (cyI, 6, .inl (fun _ => 0))), (u 2, .inl (cyJ, 8, .inr (.inl (fun _ => 0)))), (u 3, .inl (cyJ, 4, .inr (.inl (fun _ => 0)))), (u 4, .inl (cyI, 270, .inl (fun _ => 0))), (u 5, .inl (cyI, 31, .inl (fun _ => 0))), (u 6, .inl (cyI, 6, .inl (fun _ => 0))), (u 7, .inr (0, [.ref (u 4), .ref (u 5), .ref (u 6), .int 0])), (u 8, .inr (1, [.ref (u 9), .ref (u 10), .ref (u 11), .ref (u 15), .int 0, .int 0, .int 0, .int 0, .int 2, .int 0, .int 0])), (u 9, .inl (cyI, 6, .inl (fun _ => 0))), (u 10, .inl (cyJ, 8, .inr (.inl (fun _ => 0)))), (u 11, .inl (cyJ, 4, .inr (.inl (fun _ => 0)))), (u 12, .inl (cyI, 270, .inl (fun _ => 0))), (u 13, .inl (cyI, 31, .inl (fun _ => 0))), (u 14, .inl (cyI, 6, .inl (fun _ => 0))), (u 15, .inr (0, [.ref (u 12), .ref (u 13), .ref (u 14), .int 0])), (u 16, .inr (2, [.ref (u 0), .int 0, .int 0, .ref (u 8), .int 0, .int 0, .int 0, .long 0, .int 0, .int 0, .int (-1)])), (u 17, .inr (5, [.ref (u 18), .ref (u 19), .ref (u 20), .ref (u 21), .ref (u 22), .ref (u 23), .ref (u 24), .int 0, .int (-1), .int 0, .int 0, .int 0, .int 0])), (u 18, .inl (cyI, 6, .inl (fun _ => 0))), (u 19, .inl (cyI, 8, .inl (fun _ => 0))), (u 20, .inl (cyI, 8, .inl (fun _ => 0))), (u 21, .inl (cyI, 328, .inl (fun _ => 0))), (u 22, .inl (cyI, 328, .inl (fun _ => 0))), (u 23, .inl (cyI, 41, .inl (fun _ => 0))), (u 24, .inl (cyI, 41, .inl (fun _ => 0))), (u 25, .inl (cyO, 3, .inr (.inr (.inr (.inr (fun _ => none)))))), (u 26, .inl (cyI, 6, .inl (fun _ => 0))), (u 27, .inl (cyI, 6, .inl (fun _ => 0))), (u 28, .inl (cyI, 30, .inl (fun _ => 0))), (u 29, .inl (cyZ, 30, .inl (fun _ => 0))), (u 30, .inl (cyI, 30, .inl (fun _ => 0))), (u 31, .inl (cyI, 30, .inl (fun _ => 0))), (u 32, .inl (cyI, 7, .inl (fun _ => 0))), (u 33, .inr (1, [.ref (u 1), .ref (u 2), .ref (u 3), .ref (u 7), .int 0, .int 0, .int 0, .int 0, .int 2, .int 0, .int 0])), (u 34, .inr (3, [.ref (u 33), .int 0])), (u 35, .inl (cyO, 41, .inr (.inr (.inr (.inr (va_up (fun _ => none) 0 (some (u 43)))))))), (u 36, .inl (cyZ, 3, .inl (fun _ => 0))), (u 37, .inr (4, [.ref (u 28), .ref (u 29), .ref (u 30), .ref (u 31), .int 0])), (u 38, .inl (cyI, 6, .inl (fun _ => 0))), (u 39, .inl (cyI, 328, .inl (fun _ => 0))), (u 40, .inl (cyI, 328, .inl (fun _ => 0))), (u 41, .inl (cyI, 41, .inl (fun _ => 0))), (u 42, .inl (cyI, 41, .inl (fun _ => 0))), (u 43, .inr (5, [.ref (u 38), .ref (u 44), .ref (u 45), .ref (u 39), .ref (u 40), .ref (u 41), .ref (u 42), .int 0, .int (-1), .int 0, .int 0, .int 0, .int 0])), (u 44, .inl (cyI, 8, .inl (fun _ => 0))), (u 45, .inl (cyI, 8, .inl (fun _ => 0))), (h1, .inr (7, [.ref (v 0), .ref (v 1), .int 0, .int 0, .int 0, .int (-1), .int 0, .int 0, .int 0, .int 0, .long 0, .ref (v 22), .ref (v 30), .ref (v 23), .ref (v 24), .ref (v 25), .ref (v 26), .ref (v 31), .ref (v 27), .ref (v 2), .ref (v 3), .ref (v 4), .ref (v 5), .ref (v 6), .ref (v 7), .ref (v 8), .ref (v 9), .ref (v 10), .ref (v 11), .int 0, .int 0, .int 0, .int 0, .int 0, .int 0, .int 0, .int 0, .int 0, .int 0, .int 0, .ref (v 28), .ref (v 12), .int 0, .int 0, .ref (v 13), .int 0, .int 0, .ref (v 14), .ref (v 15), .int 0, .ref (v 16), .ref (v 17), .ref (v 18), .ref (v 19), .ref (v 20), .int 0, .int 0, .ref (v 21), .ref (v 29)])), (v 0, .inl (cyB, 1620, .inl (fun _ => 0))), (v 1, .inl (cyB, 1600, .inl (fun _ => 0))), (v 2, .inl (cyI, 12, .inl (fun _ => 0))), (v 3, .inl (cyI, 2, .inl (fun _ => 0))), (v 4, .inl (cyI, 2, .inl (fun _ => 0))), (v 5, .inl (cyJ, 16, .inr (.inl (fun _ => 0)))), (v 6, .inl (cyJ, 8, .inr (.inl (fun _ => 0)))), (v 7, .inl (cyI, 1120, .inl (fun _ => 0))), (v 8, .inl (cyI, 1120, .inl (fun _ => 0))), (v 9, .inl (cyI, 90, .inl (fun _ => 0))), (v 10, .inl (cyI, 90, .inl (fun _ => 0))), (v 11, .inl (cyI, 60, .inl (fun _ => 0))), (v 12, .inl (cyI, 520, .inl (fun _ => 0))), (v 13, .inl (cyI, 21320, .inl (fun _ => 0))), (v 14, .inl (cyI, 6, .inl (fun _ => 0))), (v 15, .inl (cyI, 6, .inl (fun _ => 0))), (v 16, .inl (cyI, 427, .inl (fun _ => 0))), (v 17, .inl (cyI, 30, .inl (fun _ => 0))), (v 18, .inl (cyI, 30, .inl (fun _ => 0))), (v 19, .inl (cyI, 30, .inl (fun _ => 0))), (v 20, .inl (cyI, 30, .inl (fun _ => 0))), (v 21, .inl (cyI, 1560, .inl (fun _ => 0))), (v 22, .inl (cyI, 2, .inl (fun _ => 0))), (v 23, .inl (cyI, 2, .inl (fun _ => 0))), (v 24, .inl (cyI, 2, .inl (fun _ => 0))), (v 25, .inl (cyI, 2, .inl (upd (fun _ => 0) 0 2))), (v 26, .inl (cyI, 2, .inl (fun _ => 0))), (v 27, .inl (cyI, 2, .inl (fun _ => 0))), (v 28, .inl (cyI, 520, .inl (w 0))), (v 29, .inl (cyZ, 3, .inl (fun _ => 0))), (v 30, .inl (cyI, 2, .inl (fun _ => 0))), (v 31, .inl (cyI, 2, .inl (fun _ => 0)))] := hD
  have hP : va_P (dC, dI) vwCl ([(h0, .inr (6, [.ref (u 0), .int 0, .ref (u 33), .ref (u 8), .ref (u 16), .ref (u 34), .ref (u 35), .int 0, .int 0, .ref (u 43), .ref (u 17), .ref (u 25), .ref (u 36), .ref (u 26), .int 0, .ref (u 27), .int 0, .ref (u 37), .ref (u 32), .int 0])), (u 0, .inl (cyB, 1600, .inl (fun _ => 0))), (u 1, .inl (cyI, 6, .inl (fun _ => 0))), (u 2, .inl (cyJ, 8, .inr (.inl (fun _ => 0)))), (u 3, .inl (cyJ, 4, .inr (.inl (fun _ => 0)))), (u 4, .inl (cyI, 270, .inl (fun _ => 0))), (u 5, .inl (cyI, 31, .inl (fun _ => 0))), (u 6, .inl (cyI, 6, .inl (fun _ => 0))), (u 7, .inr (0, [.ref (u 4), .ref (u 5), .ref (u 6), .int 0])), (u 8, .inr (1, [.ref (u 9), .ref (u 10), .ref (u 11), .ref (u 15), .int 0, .int 0, .int 0, .int 0, .int 2, .int 0, .int 0])), (u 9, .inl (cyI, 6, .inl (fun _ => 0))), (u 10, .inl (cyJ, 8, .inr (.inl (fun _ => 0)))), (u 11, .inl (cyJ, 4, .inr (.inl (fun _ => 0)))), (u 12, .inl (cyI, 270, .inl (fun _ => 0))), (u 13, .inl (cyI, 31, .inl (fun _ => 0))), (u 14, .inl (cyI, 6, .inl (fun _ => 0))), (u 15, .inr (0, [.ref (u 12), .ref (u 13), .ref (u 14), .int 0])), (u 16, .inr (2, [.ref (u 0), .int 0, .int 0, .ref (u 8), .int 0, .int 0, .int 0, .long 0, .int 0, .int 0, .int (-1)])), (u 17, .inr (5, [.ref (u 18), .ref (u 19), .ref (u 20), .ref (u 21), .ref (u 22), .ref (u 23), .ref (u 24), .int 0, .int (-1), .int 0, .int 0, .int 0, .int 0])), (u 18, .inl (cyI, 6, .inl (fun _ => 0))), (u 19, .inl (cyI, 8, .inl (fun _ => 0))), (u 20, .inl (cyI, 8, .inl (fun _ => 0))), (u 21, .inl (cyI, 328, .inl (fun _ => 0))), (u 22, .inl (cyI, 328, .inl (fun _ => 0))), (u 23, .inl (cyI, 41, .inl (fun _ => 0))), (u 24, .inl (cyI, 41, .inl (fun _ => 0))), (u 25, .inl (cyO, 3, .inr (.inr (.inr (.inr (fun _ => none)))))), (u 26, .inl (cyI, 6, .inl (fun _ => 0))), (u 27, .inl (cyI, 6, .inl (fun _ => 0))), (u 28, .inl (cyI, 30, .inl (fun _ => 0))), (u 29, .inl (cyZ, 30, .inl (fun _ => 0))), (u 30, .inl (cyI, 30, .inl (fun _ => 0))), (u 31, .inl (cyI, 30, .inl (fun _ => 0))), (u 32, .inl (cyI, 7, .inl (fun _ => 0))), (u 33, .inr (1, [.ref (u 1), .ref (u 2), .ref (u 3), .ref (u 7), .int 0, .int 0, .int 0, .int 0, .int 2, .int 0, .int 0])), (u 34, .inr (3, [.ref (u 33), .int 0])), (u 35, .inl (cyO, 41, .inr (.inr (.inr (.inr (va_up (fun _ => none) 0 (some (u 43)))))))), (u 36, .inl (cyZ, 3, .inl (fun _ => 0))), (u 37, .inr (4, [.ref (u 28), .ref (u 29), .ref (u 30), .ref (u 31), .int 0])), (u 38, .inl (cyI, 6, .inl (fun _ => 0))), (u 39, .inl (cyI, 328, .inl (fun _ => 0))), (u 40, .inl (cyI, 328, .inl (fun _ => 0))), (u 41, .inl (cyI, 41, .inl (fun _ => 0))), (u 42, .inl (cyI, 41, .inl (fun _ => 0))), (u 43, .inr (5, [.ref (u 38), .ref (u 44), .ref (u 45), .ref (u 39), .ref (u 40), .ref (u 41), .ref (u 42), .int 0, .int (-1), .int 0, .int 0, .int 0, .int 0])), (u 44, .inl (cyI, 8, .inl (fun _ => 0))), (u 45, .inl (cyI, 8, .inl (fun _ => 0)))] ++ [(h1, .inr (7, [.ref (v 0), .ref (v 1), .int 0, .int 0, .int 0, .int (-1), .int 0, .int 0, .int 0, .int 0, .long 0, .ref (v 22), .ref (v 30), .ref (v 23), .ref (v 24), .ref (v 25), .ref (v 26), .ref (v 31), .ref (v 27), .ref (v 2), .ref (v 3), .ref (v 4), .ref (v 5), .ref (v 6), .ref (v 7), .ref (v 8), .ref (v 9), .ref (v 10), .ref (v 11), .int 0, .int 0, .int 0, .int 0, .int 0, .int 0, .int 0, .int 0, .int 0, .int 0, .int 0, .ref (v 28), .ref (v 12), .int 0, .int 0, .ref (v 13), .int 0, .int 0, .ref (v 14), .ref (v 15), .int 0, .ref (v 16), .ref (v 17), .ref (v 18), .ref (v 19), .ref (v 20), .int 0, .int 0, .ref (v 21), .ref (v 29)])), (v 0, .inl (cyB, 1620, .inl (fun _ => 0))), (v 1, .inl (cyB, 1600, .inl (fun _ => 0))), (v 22, .inl (cyI, 2, .inl (fun _ => 0))), (v 30, .inl (cyI, 2, .inl (fun _ => 0))), (v 23, .inl (cyI, 2, .inl (fun _ => 0))), (v 24, .inl (cyI, 2, .inl (fun _ => 0))), (v 25, .inl (cyI, 2, .inl (upd (fun _ => 0) 0 2))), (v 26, .inl (cyI, 2, .inl (fun _ => 0))), (v 31, .inl (cyI, 2, .inl (fun _ => 0))), (v 27, .inl (cyI, 2, .inl (fun _ => 0))), (v 2, .inl (cyI, 12, .inl (fun _ => 0))), (v 3, .inl (cyI, 2, .inl (fun _ => 0))), (v 4, .inl (cyI, 2, .inl (fun _ => 0))), (v 5, .inl (cyJ, 16, .inr (.inl (fun _ => 0)))), (v 6, .inl (cyJ, 8, .inr (.inl (fun _ => 0)))), (v 7, .inl (cyI, 1120, .inl (fun _ => 0))), (v 8, .inl (cyI, 1120, .inl (fun _ => 0))), (v 9, .inl (cyI, 90, .inl (fun _ => 0))), (v 10, .inl (cyI, 90, .inl (fun _ => 0))), (v 11, .inl (cyI, 60, .inl (fun _ => 0))), (v 28, .inl (cyI, 520, .inl (w 0))), (v 12, .inl (cyI, 520, .inl (fun _ => 0))), (v 13, .inl (cyI, 21320, .inl (fun _ => 0))), (v 14, .inl (cyI, 6, .inl (fun _ => 0))), (v 15, .inl (cyI, 6, .inl (fun _ => 0))), (v 16, .inl (cyI, 427, .inl (fun _ => 0))), (v 17, .inl (cyI, 30, .inl (fun _ => 0))), (v 18, .inl (cyI, 30, .inl (fun _ => 0))), (v 19, .inl (cyI, 30, .inl (fun _ => 0))), (v 20, .inl (cyI, 30, .inl (fun _ => 0))), (v 21, .inl (cyI, 1560, .inl (fun _ => 0))), (v 29, .inl (cyZ, 3, .inl (fun _ => 0)))]) H := g_sub (isC := [0, 1, 2, 3, 4, 5, 6, 7, 8, 9, 10, 11, 12, 13, 14, 15, 16, 17, 18, 19, 20, 21, 22, 23, 24, 25, 26, 27, 28, 29, 30, 31, 32, 33, 34, 35, 36, 37, 38, 39, 40, 41, 42, 43, 44, 45, 46, 47, 48, 49, 70, 78, 71, 72, 73, 74, 79, 75, 50, 51, 52, 53, 54, 55, 56, 57, 58, 59, 76, 60, 61, 62, 63, 64, 65, 66, 67, 68, 69, 77]) hP rfl
  have hD : va_D (fun q : Nat => s.heap.size ≤ q) ([(h0, .inr (6, [.ref (u 0), .int 0, .ref (u 33), .ref (u 8), .ref (u 16), .ref (u 34), .ref (u 35), .int 0, .int 0, .ref (u 43), .ref (u 17), .ref (u 25), .ref (u 36), .ref (u 26), .int 0, .ref (u 27), .int 0, .ref (u 37), .ref (u 32), .int 0])), (u 0, .inl (cyB, 1600, .inl (fun _ => 0))), (u 1, .inl (cyI, 6, .inl (fun _ => 0))), (u 2, .inl (cyJ, 8, .inr (.inl (fun _ => 0)))), (u 3, .inl (cyJ, 4, .inr (.inl (fun _ => 0)))), (u 4, .inl (cyI, 270, .inl (fun _ => 0))), (u 5, .inl (cyI, 31, .inl (fun _ => 0))), (u 6, .inl (cyI, 6, .inl (fun _ => 0))), (u 7, .inr (0, [.ref (u 4), .ref (u 5), .ref (u 6), .int 0])), (u 8, .inr (1, [.ref (u 9), .ref (u 10), .ref (u 11), .ref (u 15), .int 0, .int 0, .int 0, .int 0, .int 2, .int 0, .int 0])), (u 9, .inl (cyI, 6, .inl (fun _ => 0))), (u 10, .inl (cyJ, 8, .inr (.inl (fun _ => 0)))), (u 11, .inl (cyJ, 4, .inr (.inl (fun _ => 0)))), (u 12, .inl (cyI, 270, .inl (fun _ => 0))), (u 13, .inl (cyI, 31, .inl (fun _ => 0))), (u 14, .inl (cyI, 6, .inl (fun _ => 0))), (u 15, .inr (0, [.ref (u 12), .ref (u 13), .ref (u 14), .int 0])), (u 16, .inr (2, [.ref (u 0), .int 0, .int 0, .ref (u 8), .int 0, .int 0, .int 0, .long 0, .int 0, .int 0, .int (-1)])), (u 17, .inr (5, [.ref (u 18), .ref (u 19), .ref (u 20), .ref (u 21), .ref (u 22), .ref (u 23), .ref (u 24), .int 0, .int (-1), .int 0, .int 0, .int 0, .int 0])), (u 18, .inl (cyI, 6, .inl (fun _ => 0))), (u 19, .inl (cyI, 8, .inl (fun _ => 0))), (u 20, .inl (cyI, 8, .inl (fun _ => 0))), (u 21, .inl (cyI, 328, .inl (fun _ => 0))), (u 22, .inl (cyI, 328, .inl (fun _ => 0))), (u 23, .inl (cyI, 41, .inl (fun _ => 0))), (u 24, .inl (cyI, 41, .inl (fun _ => 0))), (u 25, .inl (cyO, 3, .inr (.inr (.inr (.inr (fun _ => none)))))), (u 26, .inl (cyI, 6, .inl (fun _ => 0))), (u 27, .inl (cyI, 6, .inl (fun _ => 0))), (u 28, .inl (cyI, 30, .inl (fun _ => 0))), (u 29, .inl (cyZ, 30, .inl (fun _ => 0))), (u 30, .inl (cyI, 30, .inl (fun _ => 0))), (u 31, .inl (cyI, 30, .inl (fun _ => 0))), (u 32, .inl (cyI, 7, .inl (fun _ => 0))), (u 33, .inr (1, [.ref (u 1), .ref (u 2), .ref (u 3), .ref (u 7), .int 0, .int 0, .int 0, .int 0, .int 2, .int 0, .int 0])), (u 34, .inr (3, [.ref (u 33), .int 0])), (u 35, .inl (cyO, 41, .inr (.inr (.inr (.inr (va_up (fun _ => none) 0 (some (u 43)))))))), (u 36, .inl (cyZ, 3, .inl (fun _ => 0))), (u 37, .inr (4, [.ref (u 28), .ref (u 29), .ref (u 30), .ref (u 31), .int 0])), (u 38, .inl (cyI, 6, .inl (fun _ => 0))), (u 39, .inl (cyI, 328, .inl (fun _ => 0))), (u 40, .inl (cyI, 328, .inl (fun _ => 0))), (u 41, .inl (cyI, 41, .inl (fun _ => 0))), (u 42, .inl (cyI, 41, .inl (fun _ => 0))), (u 43, .inr (5, [.ref (u 38), .ref (u 44), .ref (u 45), .ref (u 39), .ref (u 40), .ref (u 41), .ref (u 42), .int 0, .int (-1), .int 0, .int 0, .int 0, .int 0])), (u 44, .inl (cyI, 8, .inl (fun _ => 0))), (u 45, .inl (cyI, 8, .inl (fun _ => 0)))] ++ [(h1, .inr (7, [.ref (v 0), .ref (v 1), .int 0, .int 0, .int 0, .int (-1), .int 0, .int 0, .int 0, .int 0, .long 0, .ref (v 22), .ref (v 30), .ref (v 23), .ref (v 24), .ref (v 25), .ref (v 26), .ref (v 31), .ref (v 27), .ref (v 2), .ref (v 3), .ref (v 4), .ref (v 5), .ref (v 6), .ref (v 7), .ref (v 8), .ref (v 9), .ref (v 10), .ref (v 11), .int 0, .int 0, .int 0, .int 0, .int 0, .int 0, .int 0, .int 0, .int 0, .int 0, .int 0, .ref (v 28), .ref (v 12), .int 0, .int 0, .ref (v 13), .int 0, .int 0, .ref (v 14), .ref (v 15), .int 0, .ref (v 16), .ref (v 17), .ref (v 18), .ref (v 19), .ref (v 20), .int 0, .int 0, .ref (v 21), .ref (v 29)])), (v 0, .inl (cyB, 1620, .inl (fun _ => 0))), (v 1, .inl (cyB, 1600, .inl (fun _ => 0))), (v 22, .inl (cyI, 2, .inl (fun _ => 0))), (v 30, .inl (cyI, 2, .inl (fun _ => 0))), (v 23, .inl (cyI, 2, .inl (fun _ => 0))), (v 24, .inl (cyI, 2, .inl (fun _ => 0))), (v 25, .inl (cyI, 2, .inl (upd (fun _ => 0) 0 2))), (v 26, .inl (cyI, 2, .inl (fun _ => 0))), (v 31, .inl (cyI, 2, .inl (fun _ => 0))), (v 27, .inl (cyI, 2, .inl (fun _ => 0))), (v 2, .inl (cyI, 12, .inl (fun _ => 0))), (v 3, .inl (cyI, 2, .inl (fun _ => 0))), (v 4, .inl (cyI, 2, .inl (fun _ => 0))), (v 5, .inl (cyJ, 16, .inr (.inl (fun _ => 0)))), (v 6, .inl (cyJ, 8, .inr (.inl (fun _ => 0)))), (v 7, .inl (cyI, 1120, .inl (fun _ => 0))), (v 8, .inl (cyI, 1120, .inl (fun _ => 0))), (v 9, .inl (cyI, 90, .inl (fun _ => 0))), (v 10, .inl (cyI, 90, .inl (fun _ => 0))), (v 11, .inl (cyI, 60, .inl (fun _ => 0))), (v 28, .inl (cyI, 520, .inl (w 0))), (v 12, .inl (cyI, 520, .inl (fun _ => 0))), (v 13, .inl (cyI, 21320, .inl (fun _ => 0))), (v 14, .inl (cyI, 6, .inl (fun _ => 0))), (v 15, .inl (cyI, 6, .inl (fun _ => 0))), (v 16, .inl (cyI, 427, .inl (fun _ => 0))), (v 17, .inl (cyI, 30, .inl (fun _ => 0))), (v 18, .inl (cyI, 30, .inl (fun _ => 0))), (v 19, .inl (cyI, 30, .inl (fun _ => 0))), (v 20, .inl (cyI, 30, .inl (fun _ => 0))), (v 21, .inl (cyI, 1560, .inl (fun _ => 0))), (v 29, .inl (cyZ, 3, .inl (fun _ => 0)))]) := hD.sub [0, 1, 2, 3, 4, 5, 6, 7, 8, 9, 10, 11, 12, 13, 14, 15, 16, 17, 18, 19, 20, 21, 22, 23, 24, 25, 26, 27, 28, 29, 30, 31, 32, 33, 34, 35, 36, 37, 38, 39, 40, 41, 42, 43, 44, 45, 46, 47, 48, 49, 70, 78, 71, 72, 73, 74, 79, 75, 50, 51, 52, 53, 54, 55, 56, 57, 58, 59, 76, 60, 61, 62, 63, 64, 65, 66, 67, 68, 69, 77] (by decide) rfl
  refine lv_astore_n (lv' := [(2, .ref h1), (1, .ref h0), (0, .ref b)]) hx hb dL_law_15 rfl hl (by decide) rfl (fun ls hl => ?_)
  refine lv_iconst (v := 0) hx hb dL_law_16 (by decide) ?_
  refine lv_istore_n (lv' := [(3, .int 0), (2, .ref h1), (1, .ref h0), (0, .ref b)]) hx hb dL_law_17 rfl hl (by decide) rfl (fun ls hl => ?_)
  have z0 : (0 : Int32).toInt = 0 := by decide
  exact law_loop C0 hL hKN hZ 512 (by omega) (by omega) (by omega) (by decide) (by decide) (xi_new cyB cyI cyJ cyZ cyO h0 u) (mi_new cyB cyI cyJ cyZ cyO h1 v w qv) hP hD hS hl
