/-! word lists: what is among what, and good -/
def Gd (ws : List Cond) : Prop := ∀ w ∈ ws, ((w.onTables && w.keeps) = true ∨ ∃ ty, w = .arrayClass ty)
theorem gd_0 : Gd [] := fun _ h => absurd h List.not_mem_nil
theorem gd_a {a b : List Cond} (ha : Gd a) (hb : Gd b) : Gd (a ++ b) := fun w h => (List.mem_append.mp h).elim (ha w) (hb w)
theorem gd_o {ws : List Cond} (h : ws.all goodWord = true) : Gd ws := fun w hw => good_of_word (List.all_eq_true.mp h w hw)
theorem gd_c {y : MethodName} {cc : ByteArray} {n : Nat} {r : Option FieldType} {a : List Cond} (h : Gd a) : Gd (.code y cc n r :: a) := fun w hw => (List.mem_cons.mp hw).elim (fun e => by rw [e]; exact Or.inl rfl) (h w)
theorem gd_u {C : String} {T : u_T} {N : Nat} : Gd (u_ws C T N) := fun w h => by
  obtain ⟨k, -, rfl⟩ := List.mem_map.mp h
  unfold u_lay
  split <;> exact Or.inl rfl
theorem ow_m {c w : Cond} {a b : List Cond} {k : Nat} (h : a[k]? = some w) : w ∈ c :: (a ++ b) := List.mem_cons_of_mem _ (List.mem_append_left _ (List.mem_of_getElem? h))
theorem sb_l {L b : List Cond} : ∀ w ∈ L, w ∈ L ++ b := fun _ h => List.mem_append_left _ h
theorem sb_r {L a b : List Cond} (h : ∀ w ∈ L, w ∈ b) : ∀ w ∈ L, w ∈ a ++ b := fun w hw => List.mem_append_right _ (h w hw)
theorem sb_c {L a b : List Cond} {c : Cond} (h : ∀ w ∈ L, w ∈ b) : ∀ w ∈ L, w ∈ c :: (a ++ b) := fun w hw => List.mem_cons_of_mem _ (List.mem_append_right _ (h w hw))
theorem gi_I {big ws : List Cond} (hs : ∀ w ∈ ws, w ∈ big) (hg : Gd ws) : GoodIn big ws := fun w h => ⟨hs w h, hg w h⟩
theorem gi_V {big ws : List Cond} {own C : String} {idx : Nat} {y : MethodName} (h1 : Cond.methodLink own idx y ∈ big) (h2 : Cond.instanceMethod y ∈ big) (h3 : Cond.selects C y y ∈ big) (h4 : Cond.initialized C ∈ big) (hs : ∀ w ∈ ws, w ∈ big) (hg : Gd ws) : GoodIn big (wsV own idx C y ws) := fun w h => by
  rcases List.mem_append.mp h with h | h
  · simp only [List.mem_cons, List.not_mem_nil, or_false] at h
    rcases h with rfl | rfl | rfl | rfl
    · exact ⟨h1, Or.inl rfl⟩
    · exact ⟨h2, Or.inl rfl⟩
    · exact ⟨h3, Or.inl rfl⟩
    · exact ⟨h4, Or.inl rfl⟩
  · exact ⟨hs w h, hg w h⟩
theorem gi_S {big ws : List Cond} {own : String} {idx : Nat} {y : MethodName} (h1 : Cond.methodLink own idx y ∈ big) (h2 : Cond.static y ∈ big) (h4 : Cond.initialized y.cls ∈ big) (hs : ∀ w ∈ ws, w ∈ big) (hg : Gd ws) : GoodIn big (va_wsS own idx y ws) := fun w h => by
  rcases List.mem_append.mp h with h | h
  · simp only [List.mem_cons, List.not_mem_nil, or_false] at h
    rcases h with rfl | rfl | rfl
    · exact ⟨h1, Or.inl rfl⟩
    · exact ⟨h2, Or.inl rfl⟩
    · exact ⟨h4, Or.inl rfl⟩
  · exact ⟨hs w h, hg w h⟩
theorem upd_z {k : Nat} : upd (fun _ => (0 : Int32)) k 0 = fun _ => 0 := by
  funext j
  unfold upd
  split <;> rfl
/-! my own words: what every contract carries, and calls in one row -/
/-- words of nest mates and of the array of states, which no list of words can carry -/
def NW (U : State) : Prop := va_Nw (.methodLinkNest RX1 24 yX0_init RX6) U ∧ va_Nw (.methodLinkNest RX6 47 yX5_init RX6) U ∧ va_Nw (.methodLinkNest RX6 68 yX4_init RX6) U ∧ va_AO RX5 U
abbrev kT (cyB cyI cyJ cyZ cyO : ClassId) : List (ClassId × FieldType) := [(cyB, .byte), (cyI, .int), (cyJ, .long), (cyZ, .boolean), (cyO, .object RX5)]
def KN (D : va_G) (tys : List (ClassId × FieldType)) (U : State) : Prop := va_K D vwCl tys U ∧ NW U
/-- a contract's start: the world ws, of a heap of sz cells -/
def cB (D : va_G) (tys : List (ClassId × FieldType)) (ws : va_W) (sz : Nat) (U : State) : Prop := U.heap.size = sz ∧ va_P D vwCl ws U.heap ∧ KN D tys U ∧ va_D (fun _ => True) ws
/-- a contract's end: the world ws -/
def cE (D : va_G) (A : Nat → Prop) (ws : va_W) (H : Heap) : Prop := va_P D vwCl ws H ∧ va_D A ws
theorem NW.warm {s U : State} (hW : s.WarmedH U.vm) (h : NW s) : NW U := ⟨h.1.warmM hW, h.2.1.warmM hW, h.2.2.1.warmM hW, h.2.2.2.moved hW.alike⟩
theorem KN.warm {D : va_G} {tys : List (ClassId × FieldType)} {s U : State} (hW : s.WarmedH U.vm) (h : KN D tys s) : KN D tys U := ⟨va_K.moved hW.alike h.1, h.2.warm hW⟩
theorem NW.same {u U : State} (h : u.vm = U.vm) (n : NW u) : NW U := ⟨n.1.same rfl h, n.2.1.same rfl h, n.2.2.1.same rfl h, n.2.2.2.moved (by rw [h]; exact Vm.Alike.refl _)⟩
theorem cB.blind {D : va_G} {tys : List (ClassId × FieldType)} {ws : va_W} {sz : Nat} {av : List Value} : FrameBlind (va_Pc av (cB D tys ws sz)) := fun a U g mk q => ⟨q.1, q.2.1, q.2.2.1, ⟨va_K.moved (u := U) (U := U.calling g mk a) (Vm.Alike.refl U.vm) q.2.2.2.1.1, q.2.2.2.1.2.same rfl⟩, q.2.2.2.2⟩
theorem cE.nil {D : va_G} {A : Nat → Prop} {H : Heap} : cE D A [] H := ⟨fun k q h => by simp at h, fun i j p q h => by simp at h, fun k q h => by simp at h⟩
theorem w_in {ws wc : va_W} {isC : List Nat} (hC : isC.map (fun i => ws[i]?) = wc.map some) {k : Nat} {q : Nat × va_E} (hq : wc[k]? = some q) : ∃ i, isC[k]? = some i ∧ ws[i]? = some q := by
  have h1 : (isC.map (fun i => ws[i]?))[k]? = some (some q) := by rw [hC, List.getElem?_map, hq]; rfl
  rw [List.getElem?_map] at h1
  cases hi : isC[k]? with
  | none => rw [hi] at h1; cases h1
  | some i => rw [hi] at h1; exact ⟨i, rfl, Option.some.inj h1⟩
theorem g_sub {D : va_G} {ws wc : va_W} {H : Heap} (hP : va_P D vwCl ws H) {isC : List Nat} (hC : isC.map (fun i => ws[i]?) = wc.map some) : va_P D vwCl wc H := fun _ q hq => by
  obtain ⟨i, -, h⟩ := w_in hC hq
  exact hP i q h
theorem cE.of {D : va_G} {A : Nat → Prop} {ws w9 : va_W} {H H1 : Heap} (ht : H1 = H) (hP : va_P D vwCl ws H) (hD : va_D A ws) (is : List Nat) (hn : va_nd is = true) (hs : is.map (fun i => ws[i]?) = w9.map some) : cE D A w9 H1 := ⟨by rw [ht]; exact g_sub hP hs, hD.sub is hn hs⟩
section GC
variable {p : Program} {l : Launch} {e : Env} {R : Room} {s : State} {m : MethodId} {args : Array Value} {below : List Frame} {meth : Method} {c : Code} {H : Heap} {locs : List Loc} {cells slots : Nat} {Q : State → Prop}
variable {pc : Nat} {ls : Array Slot} {rest st0 : List Value} {a : Array Value} {A : Nat → Prop} {H0 : Heap} {mc ms : Nat}
variable {D : va_G} {tys : List (ClassId × FieldType)} {ws wc wr : va_W}
/-- a call's start, of a receiver at the place q0 of the callee's world -/
theorem g_preV (hKN : KN D tys s) (hP : va_P D vwCl ws H) (hD : va_D A ws) (isC : List Nat) (hC : isC.map (fun i => ws[i]?) = wc.map some) (hn : va_nd isC = true) (q0 ci : Nat) {b N : Nat} {C : String} {T : u_T} {fs As : List Value} (he : wc[q0]? = some (b, .inr (ci, fs))) (hc : vwCl[ci]? = some (C, T, N)) : PreV s H C b (va_Pc (.ref b :: As) (cB D tys wc H.size)) As :=
  ⟨cB.blind, va_recv hKN.1 (g_sub hP hC) hc he, fun U hU hW => ⟨rfl, by rw [hU], by rw [hU]; exact g_sub hP hC, hKN.warm hW, (hD.sub isC hn hC).weaken (fun _ _ _ _ => trivial)⟩⟩
theorem g_preS (hKN : KN D tys s) (hP : va_P D vwCl ws H) (hD : va_D A ws) (isC : List Nat) (hC : isC.map (fun i => ws[i]?) = wc.map some) (hn : va_nd isC = true) {As : List Value} : PreS s H (va_Pc As (cB D tys wc H.size)) As :=
  ⟨cB.blind, fun U hU hW => ⟨rfl, by rw [hU], by rw [hU]; exact g_sub hP hC, hKN.warm hW, (hD.sub isC hn hC).weaken (fun _ _ _ _ => trivial)⟩⟩
/-- behind a call: the rest's cells as they were, the callee's as it left them -/
theorem gf_i {S : Type} {post : Int32 → S → Prop} {wP : S → va_W} (hr : va_Run p l e R s m args below meth c H locs cells slots mc ms (F0 m pc ls st0) rest (va_Qi post (fun u t => cE D (va_A wc H.size) (wP u) t.heap) (va_A wc H.size) a) (va_A wc H.size)) (hP : va_P D vwCl ws H) (hD : va_D A ws) (hS : va_S A H0 H locs) (hA : ∀ q, H0.size ≤ q → A q) (isC isR : List Nat) (hC : isC.map (fun i => ws[i]?) = wc.map some) (hR : isR.map (fun i => ws[i]?) = wr.map some) (hn : va_nd isR = true) (hdis : ∀ i ∈ isR, i ∉ isC)
    (kk : ∀ (r : Int32) (u : S) (H1 : Heap) (locs1 : List Loc), post r u → va_P D vwCl (wr ++ wP u) H1 → va_D A (wr ++ wP u) → va_S A H0 H1 locs1 → W p l e R s m args below meth c H1 locs1 (cells + mc) (slots + ms) Q (F0 m (pc + 3) ls (.int r :: rest))) : W p l e R s m args below meth c H locs cells slots Q (F0 m pc ls st0) := by
  have hF := va_free hD hS hA isC hC
  refine va_calli hr hS (fun q _ h => hF q h) hF (fun r u t H1 locs1 ht hvm hw hB hz1 hk1 hS1 => ?_)
  obtain ⟨hP1, hD1⟩ := hB
  rw [ht] at hP1
  obtain ⟨hP2, hD2⟩ := va_join (wr := wr) hP hD isC isR hC hR hn hdis hk1 hF hP1 hD1
  exact kk r u H1 locs1 hw hP2 hD2 hS1
theorem gf_l {S : Type} {post : Int64 → S → Prop} {wP : S → va_W} (hr : va_Run p l e R s m args below meth c H locs cells slots mc ms (F0 m pc ls st0) rest (va_Ql post (fun u t => cE D (va_A wc H.size) (wP u) t.heap) (va_A wc H.size) a) (va_A wc H.size)) (hP : va_P D vwCl ws H) (hD : va_D A ws) (hS : va_S A H0 H locs) (hA : ∀ q, H0.size ≤ q → A q) (isC isR : List Nat) (hC : isC.map (fun i => ws[i]?) = wc.map some) (hR : isR.map (fun i => ws[i]?) = wr.map some) (hn : va_nd isR = true) (hdis : ∀ i ∈ isR, i ∉ isC)
    (kk : ∀ (r : Int64) (u : S) (H1 : Heap) (locs1 : List Loc), post r u → va_P D vwCl (wr ++ wP u) H1 → va_D A (wr ++ wP u) → va_S A H0 H1 locs1 → W p l e R s m args below meth c H1 locs1 (cells + mc) (slots + ms) Q (F0 m (pc + 3) ls (.long r :: rest))) : W p l e R s m args below meth c H locs cells slots Q (F0 m pc ls st0) := by
  have hF := va_free hD hS hA isC hC
  refine va_calll hr hS (fun q _ h => hF q h) hF (fun r u t H1 locs1 ht hvm hw hB hz1 hk1 hS1 => ?_)
  obtain ⟨hP1, hD1⟩ := hB
  rw [ht] at hP1
  obtain ⟨hP2, hD2⟩ := va_join (wr := wr) hP hD isC isR hC hR hn hdis hk1 hF hP1 hD1
  exact kk r u H1 locs1 hw hP2 hD2 hS1
theorem gf_v {S : Type} {post : S → Prop} {wP : S → va_W} (hr : va_Run p l e R s m args below meth c H locs cells slots mc ms (F0 m pc ls st0) rest (va_Qv post (fun u t => cE D (va_A wc H.size) (wP u) t.heap) (va_A wc H.size) a) (va_A wc H.size)) (hP : va_P D vwCl ws H) (hD : va_D A ws) (hS : va_S A H0 H locs) (hA : ∀ q, H0.size ≤ q → A q) (isC isR : List Nat) (hC : isC.map (fun i => ws[i]?) = wc.map some) (hR : isR.map (fun i => ws[i]?) = wr.map some) (hn : va_nd isR = true) (hdis : ∀ i ∈ isR, i ∉ isC)
    (kk : ∀ (u : S) (H1 : Heap) (locs1 : List Loc), post u → va_P D vwCl (wr ++ wP u) H1 → va_D A (wr ++ wP u) → va_S A H0 H1 locs1 → W p l e R s m args below meth c H1 locs1 (cells + mc) (slots + ms) Q (F0 m (pc + 3) ls rest)) : W p l e R s m args below meth c H locs cells slots Q (F0 m pc ls st0) := by
  have hF := va_free hD hS hA isC hC
  refine va_callv hr hS (fun q _ h => hF q h) hF (fun u t H1 locs1 ht hvm hw hB hz1 hk1 hS1 => ?_)
  obtain ⟨hP1, hD1⟩ := hB
  rw [ht] at hP1
  obtain ⟨hP2, hD2⟩ := va_join (wr := wr) hP hD isC isR hC hR hn hdis hk1 hF hP1 hD1
  exact kk u H1 locs1 hw hP2 hD2 hS1
theorem gf_r {S : Type} {post : S → Prop} {wP : S → va_W} {rA : S → Nat} (hr : va_Run p l e R s m args below meth c H locs cells slots mc ms (F0 m pc ls st0) rest (va_Qr post (fun u ra t => ra = rA u ∧ cE D (va_A wc H.size) (wP u) t.heap) (va_A wc H.size) a) (va_A wc H.size)) (hP : va_P D vwCl ws H) (hD : va_D A ws) (hS : va_S A H0 H locs) (hA : ∀ q, H0.size ≤ q → A q) (isC isR : List Nat) (hC : isC.map (fun i => ws[i]?) = wc.map some) (hR : isR.map (fun i => ws[i]?) = wr.map some) (hn : va_nd isR = true) (hdis : ∀ i ∈ isR, i ∉ isC)
    (kk : ∀ (u : S) (H1 : Heap) (locs1 : List Loc), post u → va_P D vwCl (wr ++ wP u) H1 → va_D A (wr ++ wP u) → va_S A H0 H1 locs1 → W p l e R s m args below meth c H1 locs1 (cells + mc) (slots + ms) Q (F0 m (pc + 3) ls (.ref (rA u) :: rest))) : W p l e R s m args below meth c H locs cells slots Q (F0 m pc ls st0) := by
  have hF := va_free hD hS hA isC hC
  refine va_callr hr hS (fun q _ h => hF q h) hF (fun u ra t H1 locs1 ht hvm hw hB hz1 hk1 hS1 => ?_)
  obtain ⟨hra, hP1, hD1⟩ := hB
  subst hra
  rw [ht] at hP1
  obtain ⟨hP2, hD2⟩ := va_join (wr := wr) hP hD isC isR hC hR hn hdis hk1 hF hP1 hD1
  exact kk u H1 locs1 hw hP2 hD2 hS1
/-- the top of the stack, by another word for it -/
theorem tp_c {v w : Int32} (h : v = w) (kk : W p l e R s m args below meth c H locs cells slots Q (F0 m pc ls (.int w :: rest))) : W p l e R s m args below meth c H locs cells slots Q (F0 m pc ls (.int v :: rest)) := by rw [h]; exact kk
theorem tp_v {v w : Value} (h : v = w) (kk : W p l e R s m args below meth c H locs cells slots Q (F0 m pc ls (w :: rest))) : W p l e R s m args below meth c H locs cells slots Q (F0 m pc ls (v :: rest)) := by rw [h]; exact kk
theorem w_gen {nL : Nat} {lv : List (Nat × Value)} (kk : ∀ (H : Heap) (locs : List Loc) (ls : Array Slot), va_P D vwCl ws H → va_S A H0 H locs → lv_has ls nL lv → W p l e R s m args below meth c H locs cells slots Q (F0 m pc ls st0)) (hP : va_P D vwCl ws H) (hS : va_S A H0 H locs) (hl : lv_has ls nL lv) : W p l e R s m args below meth c H locs cells slots Q (F0 m pc ls st0) := kk H locs ls hP hS hl
/-- a new array of a class that is known -/
theorem g_newa {cc : ByteArray} (hexec : p.tables.exec = Jvm.exec) (hb : c.code = cc) {atype : ArrayType} (harr : (Cond.arrayClass (newarray.typeOf atype)).before args s = true) {ty : FieldType} (hty : newarray.typeOf atype = ty) (hKN : KN D tys s) (hP : va_P D vwCl ws H) (hD : va_D A ws) (hS : va_S A H0 H locs) (hA : ∀ q, H0.size ≤ q → A q) (t0 : Nat) {cA : ClassId} (ht : tys[t0]? = some (cA, ty)) (hp : refKind ty = false)
    {n : Int32} {N' : Nat} {a0 : vp_A} (ha : ∀ cA : ClassId, vp_cell cA a0 = arrV cA N' (fun _ => defaultValue ty)) (hn : ¬ n < 0) (hN : n.toNatClampNeg = N') (hbytes : N' * componentBytes ty ≤ 536870912) (hcells : cells + 1 ≤ R.cells) (hslots : slots + N' ≤ R.slots) (hdg : decode cc pc = .ok (.newarray atype, 2))
    (kk : ∀ (q : Nat) (H1 : Heap), va_P D vwCl (ws ++ [(q, .inl (cA, a0))]) H1 → va_D A (ws ++ [(q, .inl (cA, a0))]) → va_S A H0 H1 locs →
      W p l e R s m args below meth c H1 locs (cells + 1) (slots + N') Q (F0 m (pc + 2) ls (.ref q :: rest))) : W p l e R s m args below meth c H locs cells slots Q (F0 m pc ls (.int n :: rest)) := by
  refine va_newa hexec hb harr hty hKN.1 hP hD hS hA ha hn hN hbytes hcells hslots hdg (fun q cA' H1 hK1 hP1 hD1 hS1 => ?_)
  have h1 := (hK1.2 tys.length (cA', ty) (by simp)).2
  have h2 := (hKN.1.2 t0 _ ht).2
  have he : cA' = cA := by
    cases ty <;> first | exact Option.some.inj (h1.symm.trans h2) | cases hp
  subst he
  exact kk q H1 hP1 hD1 hS1
/-- a new array of states -/
theorem g_newq {cc : ByteArray} (hexec : p.tables.exec = Jvm.exec) (hb : c.code = cc) {own : String} {index : Nat} (hown : s.vm.findClass own = some m.cls) (hclink : (Cond.classLink own index RX5).before args s = true) (hKN : KN D tys s) (hP : va_P D vwCl ws H) (hD : va_D A ws) (hS : va_S A H0 H locs) (hA : ∀ q, H0.size ≤ q → A q) (t0 : Nat) {cA : ClassId} (ht : tys[t0]? = some (cA, .object RX5))
    {n : Int32} {N' : Nat} (hn : ¬ n < 0) (hN : n.toNatClampNeg = N') (hbytes : N' * 4 ≤ 536870912) (hcells : cells + 1 ≤ R.cells) (hslots : slots + N' ≤ R.slots) (hdg : decode cc pc = .ok (.anewarray index, 3))
    (kk : ∀ (q : Nat) (H1 : Heap), va_P D vwCl (ws ++ [(q, .inl (cA, N', .inr (.inr (.inr (.inr (fun _ => none))))))]) H1 → va_D A (ws ++ [(q, .inl (cA, N', .inr (.inr (.inr (.inr (fun _ => none))))))]) → va_S A H0 H1 locs →
      W p l e R s m args below meth c H1 locs (cells + 1) (slots + N') Q (F0 m (pc + 3) ls (.ref q :: rest))) : W p l e R s m args below meth c H locs cells slots Q (F0 m pc ls (.int n :: rest)) := by
  refine va_newq hexec hb hown hclink hKN.2.2.2.2 hKN.1 hP hD hS hA hn hN hbytes hcells hslots hdg (fun q cA' H1 hK1 hP1 hD1 hS1 => ?_)
  obtain ⟨-, -, -, -, -, h1⟩ := (hK1.2 tys.length (cA', .object RX5) (by simp)).2
  obtain ⟨-, -, -, -, -, h2⟩ := (hKN.1.2 t0 _ ht).2
  have he : cA' = cA := Option.some.inj (h1.symm.trans h2)
  subst he
  exact kk q H1 hP1 hD1 hS1
end GC
/-! numbers: what a comparison says of the integers -/
theorem i_lt {x y : Int32} {a b : Int} (h : x < y) (hx : x.toInt = a) (hy : y.toInt = b) : a < b := by rw [← hx, ← hy]; exact Int32.lt_iff_toInt_lt.mp h
theorem i_le {x y : Int32} {a b : Int} (h : x ≤ y) (hx : x.toInt = a) (hy : y.toInt = b) : a ≤ b := by rw [← hx, ← hy]; exact Int32.le_iff_toInt_le.mp h
theorem i_nlt {x y : Int32} {a b : Int} (h : ¬ x < y) (hx : x.toInt = a) (hy : y.toInt = b) : b ≤ a := by rw [← hx, ← hy]; exact Int32.le_iff_toInt_le.mp (Int32.not_lt.mp h)
theorem i_nle {x y : Int32} {a b : Int} (h : ¬ x ≤ y) (hx : x.toInt = a) (hy : y.toInt = b) : b < a := by rw [← hx, ← hy]; exact Int32.lt_iff_toInt_lt.mp (Int32.not_le.mp h)
theorem i_eq {x y : Int32} {a b : Int} (h : x = y) (hx : x.toInt = a) (hy : y.toInt = b) : a = b := by rw [← hx, ← hy, h]
theorem i_ne {x y : Int32} {a b : Int} (h : ¬ x = y) (hx : x.toInt = a) (hy : y.toInt = b) : a ≠ b := by rw [← hx, ← hy]; exact fun q => h (Int32.toInt_inj.mp q)
theorem i_of {x y : Int32} {b : Int} (h : x.toInt = b) (hy : y.toInt = b) : x = y := Int32.toInt_inj.mp (h.trans hy.symm)
theorem vp_i {x : Int32} {n : Nat} {a : Int} (hx : x.toInt = a) (h0 : 0 ≤ a) (h1 : a < n) : vp_in x n := vp_in_iff.mpr (by rw [hx]; exact ⟨h0, h1⟩)
theorem cpy_z {a b n : Nat} : va_cpy (fun _ => (0 : Int32)) (fun _ => 0) a b n = fun _ => 0 := by
  funext j
  unfold va_cpy
  split <;> rfl
theorem ti_add {x y z : Int32} {a b : Int} (e : z = x + y) (hx : x.toInt = a) (hy : y.toInt = b) (h0 : -2147483648 ≤ a + b) (h1 : a + b ≤ 2147483647) : z.toInt = a + b := by
  rw [e, Int32.toInt_add, hx, hy]
  exact Int.bmod_eq_of_le (by omega) (by omega)
theorem and_m1 (x : Int32) : x &&& (-1) = x := by
  apply Int32.toBitVec_inj.mp
  rw [Int32.toBitVec_and]
  show x.toBitVec &&& BitVec.allOnes 32 = x.toBitVec
  exact BitVec.and_allOnes
/-! numbers in ranges -/
def In (f : Nat → Int32) (n : Nat) (lo hi : Int) : Prop := ∀ j : Nat, j < n → lo ≤ (f j).toInt ∧ (f j).toInt ≤ hi
theorem In.get {f : Nat → Int32} {n : Nat} {lo hi : Int} (h : In f n lo hi) {i : Int32} (hi' : vp_in i n) : lo ≤ (f i.toNatClampNeg).toInt ∧ (f i.toNatClampNeg).toInt ≤ hi := h _ (Nat.not_le.mp fun q => hi' (Or.inr q))
theorem In.at {f : Nat → Int32} {n : Nat} {lo hi : Int} (h : In f n lo hi) {i z : Int32} (e : z = f i.toNatClampNeg) (hi' : vp_in i n) : lo ≤ z.toInt ∧ z.toInt ≤ hi := by rw [e]; exact h.get hi'
theorem In.set {f : Nat → Int32} {n : Nat} {lo hi : Int} (h : In f n lo hi) {k : Nat} {x : Int32} (hx : lo ≤ x.toInt ∧ x.toInt ≤ hi) : In (upd f k x) n lo hi := by
  intro j hj
  unfold upd
  split
  · exact hx
  · exact h j hj
theorem In.cpy {f g : Nat → Int32} {n : Nat} {lo hi : Int} (hf : In f n lo hi) (hg : In g n lo hi) : In (va_cpy f g 0 0 n) n lo hi := by
  intro j hj
  unfold va_cpy
  split
  · rw [show 0 + (j - 0) = j by omega]; exact hf j hj
  · exact hg j hj
theorem In.wide {f : Nat → Int32} {n : Nat} {lo hi lo' hi' : Int} (h : In f n lo hi) (h1 : lo' ≤ lo) (h2 : hi ≤ hi') : In f n lo' hi' := fun j hj => ⟨Int.le_trans h1 (h j hj).1, Int.le_trans (h j hj).2 h2⟩
theorem In.z {n : Nat} {lo hi : Int} (h1 : lo ≤ 0) (h2 : 0 ≤ hi) : In (fun _ => 0) n lo hi := fun _ _ => ⟨h1, h2⟩
theorem ti_sub {x y z : Int32} {a b : Int} (e : z = x - y) (hx : x.toInt = a) (hy : y.toInt = b) (h0 : -2147483648 ≤ a - b) (h1 : a - b ≤ 2147483647) : z.toInt = a - b := by
  rw [e, Int32.toInt_sub, hx, hy]
  exact Int.bmod_eq_of_le (by omega) (by omega)
theorem ti_mul {x y z : Int32} {a b : Int} (e : z = x * y) (hx : x.toInt = a) (hy : y.toInt = b) (h0 : -2147483648 ≤ a * b) (h1 : a * b ≤ 2147483647) : z.toInt = a * b := by
  rw [e, Int32.toInt_mul, hx, hy]
  exact Int.bmod_eq_of_le (by omega) (by omega)
theorem ti_nn {x : Int32} (h : 0 ≤ x.toInt) : ∃ k : Nat, x = nI k ∧ (k : Int) = x.toInt ∧ k < 2 ^ 31 := by
  have h2 := x.toInt_lt
  refine ⟨x.toInt.toNat, ?_, by omega, by omega⟩
  apply Int32.toInt_inj.mp
  rw [nI_toInt (by omega)]
  omega
/-- the rest of a number that is not below 0, by one that is above it -/
theorem ti_rem {x y z : Int32} (e : z = x - x / y * y) (hx : 0 ≤ x.toInt) (hy : 0 < y.toInt) : 0 ≤ z.toInt ∧ z.toInt < y.toInt ∧ z.toInt ≤ x.toInt := by
  obtain ⟨a, ea, ia, la⟩ := ti_nn hx
  obtain ⟨b, eb, ib, lb⟩ := ti_nn (Int.le_of_lt hy)
  have hb0 : 0 < b := by omega
  have hz : z = nI (a % b) := by rw [e, ea, eb]; exact pk_rem la hb0 lb
  have h1 := Nat.mod_lt a hb0
  have h2 := Nat.mod_le a b
  rw [hz, nI_toInt (by omega)]
  omega
theorem ti_div {x y z : Int32} (e : z = x / y) (hx : 0 ≤ x.toInt) (hy : 0 < y.toInt) : 0 ≤ z.toInt ∧ z.toInt ≤ x.toInt ∧ z.toInt = x.toInt / y.toInt := by
  obtain ⟨a, ea, ia, la⟩ := ti_nn hx
  obtain ⟨b, eb, ib, lb⟩ := ti_nn (Int.le_of_lt hy)
  have hb0 : 0 < b := by omega
  have hz : z = nI (a / b) := by rw [e, ea, eb]; exact pk_div la hb0 lb
  have h2 := Nat.div_le_self a b
  rw [hz, nI_toInt (by omega), ← ia, ← ib]
  exact ⟨Int.natCast_nonneg _, Int.ofNat_le.mpr h2, by simp⟩
theorem ti_and (x : Int32) {m z : Int32} (k : Nat) (e : z = x &&& m) (hm : m.toBitVec.toNat = 2 ^ k - 1) (hk : k ≤ 30) : 0 ≤ z.toInt ∧ z.toInt < 2 ^ k := by
  obtain ⟨j, hj, ej⟩ := pk_andE x k hm
  have h2 : (2 : Nat) ^ k ≤ 2 ^ 30 := Nat.pow_le_pow_right (by decide) hk
  rw [e, ej, nI_toInt (by omega)]
  refine ⟨by omega, ?_⟩
  have : (j : Int) < ((2 ^ k : Nat) : Int) := by omega
  simpa using this
/-- a join: what is proved of every state of a kind serves each way that comes to it -/
theorem w_join {p : Program} {l : Launch} {e : Env} {R : Room} {s : State} {m : MethodId} {args : Array Value} {below : List Frame} {meth : Method} {c : Code} {H : Heap} {locs : List Loc} {cells slots : Nat} {Q : State → Prop} {g0 : JFrame} {ι : Type} {HH : ι → Heap} {LL : ι → List Loc} {gg : ι → JFrame} {Hy : ι → Prop} (h1 : (∀ i, Hy i → W p l e R s m args below meth c (HH i) (LL i) cells slots Q (gg i)) → W p l e R s m args below meth c H locs cells slots Q g0) (h2 : ∀ i, Hy i → W p l e R s m args below meth c (HH i) (LL i) cells slots Q (gg i)) : W p l e R s m args below meth c H locs cells slots Q g0 := h1 h2
theorem mm_min {x y z : Int32} {a b : Int} (e : z = if y < x then y else x) (hx : x.toInt = a) (hy : y.toInt = b) : z.toInt = min a b := by
  rw [e]
  split
  · rename_i h
    have h2 := i_lt h hy hx
    omega
  · rename_i h
    have h2 := i_nlt h hy hx
    omega
theorem mm_max {x y z : Int32} {a b : Int} (e : z = if x < y then y else x) (hx : x.toInt = a) (hy : y.toInt = b) : z.toInt = max a b := by
  rw [e]
  split
  · rename_i h
    have h2 := i_lt h hx hy
    omega
  · rename_i h
    have h2 := i_nlt h hx hy
    omega
theorem nz (v : Int32) (h0 : 0 ≤ v.toInt) (h1 : v.toInt ≤ 1) : narrow .boolean (.int v) = .int v := by
  rcases (show v.toInt = 0 ∨ v.toInt = 1 by omega) with h | h
  · rw [i_of (y := 0) h (by decide)]; decide
  · rw [i_of (y := 1) h (by decide)]; decide
abbrev ST : Type := (Nat → Nat → Int32) × (Nat → Int32)
