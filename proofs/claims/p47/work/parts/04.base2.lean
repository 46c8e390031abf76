/-! rows of numbers in ranges, part by part -/
def In2 (f : Nat → Int32) (a b : Nat) (lo hi : Int) : Prop := ∀ j : Nat, a ≤ j → j < b → lo ≤ (f j).toInt ∧ (f j).toInt ≤ hi
theorem In2.at {f : Nat → Int32} {a b : Nat} {lo hi : Int} (h : In2 f a b lo hi) {i z : Int32} {x : Int} (e : z = f i.toNatClampNeg) (hx : i.toInt = x) (h0 : (a : Int) ≤ x) (h1 : x < b) : lo ≤ z.toInt ∧ z.toInt ≤ hi := by
  rw [e]
  exact h _ (by show a ≤ i.toInt.toNat; omega) (by show i.toInt.toNat < b; omega)
theorem In2.set {f : Nat → Int32} {a b : Nat} {lo hi : Int} (h : In2 f a b lo hi) {k : Nat} {x : Int32} (hx : lo ≤ x.toInt ∧ x.toInt ≤ hi) : In2 (upd f k x) a b lo hi := by
  intro j h0 h1
  unfold upd
  split
  · exact hx
  · exact h j h0 h1
theorem In2.out {f : Nat → Int32} {a b : Nat} {lo hi : Int} (h : In2 f a b lo hi) {i x : Int32} {c : Int} (hc : i.toInt = c) (ho : c < a ∨ (b : Int) ≤ c) (hn : 0 ≤ c) : In2 (upd f i.toNatClampNeg x) a b lo hi := by
  intro j h0 h1
  unfold upd
  split
  · rename_i e
    have e2 : j = i.toInt.toNat := e
    omega
  · exact h j h0 h1
theorem In2.cpy {f g : Nat → Int32} {a b : Nat} {lo hi : Int} (hf : In2 f a b lo hi) (hg : In2 g a b lo hi) (m : Nat) : In2 (va_cpy f g 0 0 m) a b lo hi := by
  intro j h0 h1
  unfold va_cpy
  split
  · rw [show 0 + (j - 0) = j by omega]; exact hf j h0 h1
  · exact hg j h0 h1
theorem In2.z {a b : Nat} {lo hi : Int} (h1 : lo ≤ 0) (h2 : 0 ≤ hi) : In2 (fun _ => 0) a b lo hi := fun _ _ _ => ⟨h1, h2⟩
theorem i_nn {x : Int32} (h : 0 ≤ x.toInt) : ¬ x < 0 := fun q => by
  have := i_lt (b := 0) q rfl (by decide)
  omega
theorem i_cn {x : Int32} {n : Nat} (h : x.toInt ≤ n) : (0 : Int32).toNatClampNeg + x.toNatClampNeg ≤ n := by
  show 0 + x.toInt.toNat ≤ n
  omega
abbrev ST4 : Type := (Nat → Nat → Int32) × (Nat → Int32) × (Nat → Int64) × (Nat → Nat → Int64)
theorem w_cut {p : Program} {l : Launch} {e : Env} {R : Room} {s : State} {m : MethodId} {args : Array Value} {below : List Frame} {meth : Method} {c : Code} {H : Heap} {locs : List Loc} {cells slots : Nat} {Q : State → Prop} {g0 : JFrame} {Hy : Heap → List Loc → JFrame → Prop} (h1 : (∀ (H' : Heap) (locs' : List Loc) (g' : JFrame), Hy H' locs' g' → W p l e R s m args below meth c H' locs' cells slots Q g') → W p l e R s m args below meth c H locs cells slots Q g0) (h2 : ∀ (H' : Heap) (locs' : List Loc) (g' : JFrame), Hy H' locs' g' → W p l e R s m args below meth c H' locs' cells slots Q g') : W p l e R s m args below meth c H locs cells slots Q g0 := h1 h2
/-! worlds with a rest that is not told -/
theorem mapT {X pl cx : va_W} {isC : List Nat} (hC : isC.map (fun i => X[i]?) = cx.map some) : isC.map (fun i => (X ++ pl)[i]?) = cx.map some := by
  rw [← hC]
  apply List.map_congr_left
  intro i hi
  have h1 : X[i]? ∈ isC.map (fun i => X[i]?) := List.mem_map_of_mem hi
  rw [hC] at h1
  obtain ⟨q, -, hq⟩ := List.mem_map.mp h1
  exact List.getElem?_append_left (List.getElem?_eq_some_iff.mp hq.symm).1
theorem cE.ofT {D : va_G} {A : Nat → Prop} {X pl w9 : va_W} {H H1 : Heap} (ht : H1 = H) (hP : va_P D vwCl (X ++ pl) H) (hD : va_D A (X ++ pl)) (is : List Nat) (hn : va_nd is = true) (hs : is.map (fun i => X[i]?) = w9.map some) : cE D A (w9 ++ pl) H1 := ⟨by rw [ht]; exact hP.part is hs, hD.part is hn hs⟩
section GT
variable {p : Program} {l : Launch} {e : Env} {R : Room} {s : State} {m : MethodId} {args : Array Value} {below : List Frame} {meth : Method} {c : Code} {H : Heap} {locs : List Loc} {cells slots : Nat} {Q : State → Prop}
variable {pc : Nat} {ls : Array Slot} {rest st0 : List Value} {a : Array Value} {A : Nat → Prop} {H0 : Heap} {mc ms : Nat}
variable {D : va_G} {tys : List (ClassId × FieldType)} {ws wc wr pl : va_W}
theorem gt_i {S : Type} {post : Int32 → S → Prop} {wP : S → va_W} (hr : va_Run p l e R s m args below meth c H locs cells slots mc ms (F0 m pc ls st0) rest (va_Qi post (fun u t => cE D (va_A wc H.size) (wP u) t.heap) (va_A wc H.size) a) (va_A wc H.size)) (hP : va_P D vwCl (ws ++ pl) H) (hD : va_D A (ws ++ pl)) (hS : va_S A H0 H locs) (hA : ∀ q, H0.size ≤ q → A q) (isC isR : List Nat) (hC : isC.map (fun i => ws[i]?) = wc.map some) (hR : isR.map (fun i => ws[i]?) = wr.map some) (hn : va_nd isR = true) (hdis : ∀ i ∈ isR, i ∉ isC)
    (kk : ∀ (r : Int32) (u : S) (H1 : Heap) (locs1 : List Loc), post r u → va_P D vwCl ((wr ++ wP u) ++ pl) H1 → va_D A ((wr ++ wP u) ++ pl) → va_S A H0 H1 locs1 → W p l e R s m args below meth c H1 locs1 (cells + mc) (slots + ms) Q (F0 m (pc + 3) ls (.int r :: rest))) : W p l e R s m args below meth c H locs cells slots Q (F0 m pc ls st0) := by
  have hF := va_free hD hS hA isC (mapT hC)
  refine va_calli hr hS (fun q _ h => hF q h) hF (fun r u t H1 locs1 ht hvm hw hB hz1 hk1 hS1 => ?_)
  obtain ⟨hP1, hD1⟩ := hB
  rw [ht] at hP1
  obtain ⟨hP2, hD2⟩ := va_joinQ (wr := wr) hP hD isC isR hC hR hn hdis hk1 hF hP1 hD1
  exact kk r u H1 locs1 hw hP2 hD2 hS1
theorem gt_v {S : Type} {post : S → Prop} {wP : S → va_W} (hr : va_Run p l e R s m args below meth c H locs cells slots mc ms (F0 m pc ls st0) rest (va_Qv post (fun u t => cE D (va_A wc H.size) (wP u) t.heap) (va_A wc H.size) a) (va_A wc H.size)) (hP : va_P D vwCl (ws ++ pl) H) (hD : va_D A (ws ++ pl)) (hS : va_S A H0 H locs) (hA : ∀ q, H0.size ≤ q → A q) (isC isR : List Nat) (hC : isC.map (fun i => ws[i]?) = wc.map some) (hR : isR.map (fun i => ws[i]?) = wr.map some) (hn : va_nd isR = true) (hdis : ∀ i ∈ isR, i ∉ isC)
    (kk : ∀ (u : S) (H1 : Heap) (locs1 : List Loc), post u → va_P D vwCl ((wr ++ wP u) ++ pl) H1 → va_D A ((wr ++ wP u) ++ pl) → va_S A H0 H1 locs1 → W p l e R s m args below meth c H1 locs1 (cells + mc) (slots + ms) Q (F0 m (pc + 3) ls rest)) : W p l e R s m args below meth c H locs cells slots Q (F0 m pc ls st0) := by
  have hF := va_free hD hS hA isC (mapT hC)
  refine va_callv hr hS (fun q _ h => hF q h) hF (fun u t H1 locs1 ht hvm hw hB hz1 hk1 hS1 => ?_)
  obtain ⟨hP1, hD1⟩ := hB
  rw [ht] at hP1
  obtain ⟨hP2, hD2⟩ := va_joinQ (wr := wr) hP hD isC isR hC hR hn hdis hk1 hF hP1 hD1
  exact kk u H1 locs1 hw hP2 hD2 hS1
end GT
