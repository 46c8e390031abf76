/-! the model reads a text -/
def sgn (t : Nat → Int32) (n x : Int32) : Int32 := if x.toInt < n.toInt then t x.toNatClampNeg &&& 255 else 0
theorem sgn_lt {t : Nat → Int32} {n x : Int32} (h : x.toInt < n.toInt) : sgn t n x = t x.toNatClampNeg &&& 255 := if_pos h
theorem sgn_ge {t : Nat → Int32} {n x : Int32} (h : n.toInt ≤ x.toInt) : sgn t n x = 0 := if_neg (by omega)
def cnB (f : Nat → Int32) : Nat → Int
  | 0 => 0
  | n + 1 => cnB f n + (if 1 ≤ (f n).toInt ∧ (f n).toInt ≤ 6 ∧ (f n).toInt ≠ 3 then 1 else 0)
def cnN (f : Nat → Int32) : Nat → Int
  | 0 => 0
  | n + 1 => cnN f n + (if (f n).toInt = 3 then 1 else 0)
def cnR (f : Nat → Int32) : Nat → Int
  | 0 => 0
  | n + 1 => cnR f n + (if (f n).toInt = 7 then 1 else 0)
theorem cn_upd {f : Nat → Int32} {k : Nat} {v : Int32} : ∀ n : Nat, n ≤ k → cnB (upd f k v) n = cnB f n ∧ cnN (upd f k v) n = cnN f n ∧ cnR (upd f k v) n = cnR f n
  | 0, _ => ⟨rfl, rfl, rfl⟩
  | n + 1, h => by
    obtain ⟨a, b, c⟩ := cn_upd (f := f) (k := k) (v := v) n (by omega)
    have e : upd f k v n = f n := upd_ne (by omega)
    unfold cnB cnN cnR
    rw [a, b, c, e]
    exact ⟨rfl, rfl, rfl⟩
theorem cn_nn (f : Nat → Int32) : ∀ n : Nat, 0 ≤ cnB f n ∧ 0 ≤ cnN f n ∧ 0 ≤ cnR f n
  | 0 => ⟨Int.le_refl _, Int.le_refl _, Int.le_refl _⟩
  | n + 1 => by
    obtain ⟨a, b, c⟩ := cn_nn f n
    unfold cnB cnN cnR
    refine ⟨?_, ?_, ?_⟩ <;> split <;> omega
def EO (w s : Int32) : Prop := (w.toInt = 3 ∧ s.toInt = 126) ∨ w.toInt = 7 ∨ (1 ≤ w.toInt ∧ w.toInt ≤ 6 ∧ w.toInt ≠ 3 ∧ s.toInt ≠ 126 ∧ ¬ (97 ≤ s.toInt ∧ s.toInt ≤ 122))
theorem cn_all {f g : Nat → Int32} (h0 : (f 0).toInt = 8) : ∀ n : Nat, (∀ i : Nat, 1 ≤ i → i < n + 1 → EO (f i) (g i)) → cnB f (n + 1) + cnN f (n + 1) + cnR f (n + 1) = n
  | 0, _ => by
    unfold cnB cnN cnR cnB cnN cnR
    rw [h0]
    decide
  | n + 1, h => by
    have ih := cn_all h0 n (fun i a b => h i a (by omega))
    have e := h (n + 1) (by omega) (by omega)
    unfold cnB cnN cnR
    unfold EO at e
    split <;> split <;> split <;> omega
theorem PG.z {code : Nat → Int32} {a : Nat} : PG code a a 0 := ⟨fun _ => 0, rfl, rfl, fun k h0 h1 => by omega⟩
theorem PG.snoc {code code' : Nat → Int32} {a b : Nat} {n n' : Int} {c : Int32} (h : PG code a b n) (hab : a ≤ b) (e : upd code b c = code') (hc : okc c n n') : PG code' a (b + 1) n' := by
  obtain ⟨q, q0, q1, q2⟩ := h
  refine ⟨fun k => if k ≤ b then q k else n', ?_, ?_, fun k k0 k1 => ?_⟩
  · show (if a ≤ b then q a else n') = 0
    rw [if_pos hab, q0]
  · show (if b + 1 ≤ b then q (b + 1) else n') = n'
    rw [if_neg (by omega)]
  · show okc (code' k) (if k ≤ b then q k else n') (if k + 1 ≤ b then q (k + 1) else n')
    by_cases c1 : k = b
    · rw [c1, if_pos (Nat.le_refl b), if_neg (by omega), q1, ← e, upd_at]
      exact hc
    · rw [if_pos (by omega), if_pos (by omega), ← e, upd_ne c1]
      exact q2 k k0 (by omega)
theorem PG.cong {code code' : Nat → Int32} {a b : Nat} {n : Int} (h : PG code a b n) (q : ∀ k : Nat, a ≤ k → k < b → code' k = code k) : PG code' a b n := by
  obtain ⟨f, f0, f1, f2⟩ := h
  exact ⟨f, f0, f1, fun k k0 k1 => by rw [q k k0 k1]; exact f2 k k0 k1⟩
/-- where the reading of a formula stands; wn: a unit is wanted -/
def EI (wn : Int) (eW eS code c0 : Nat → Int32) (base : Nat) (rb codes piled within ur un : Int32) : Prop :=
  ((wn = 0 ∨ wn = 1) ∧ 0 ≤ piled.toInt ∧ (1 ≤ piled.toInt → (eW 0).toInt = 8) ∧ (∀ i : Nat, 1 ≤ i → (i : Int) < piled.toInt → EO (eW i) (eS i))) ∧
  (within.toInt = cnN eW piled.toNatClampNeg + cnR eW piled.toNatClampNeg ∧ within.toInt ≤ 7 ∧ cnB eW piled.toNatClampNeg + (1 - wn) ≤ ur.toInt ∧ ur.toInt ≤ 30) ∧
  ((base : Int) ≤ codes.toInt ∧ 560 * rb.toInt ≤ base ∧ 0 ≤ rb.toInt ∧ (wn = 1 → codes.toInt - 560 * rb.toInt + cnB eW piled.toNatClampNeg + cnN eW piled.toNatClampNeg ≤ 9 * un.toInt + within.toInt) ∧ (wn = 0 → codes.toInt - 560 * rb.toInt + cnB eW piled.toNatClampNeg + cnN eW piled.toNatClampNeg + 1 ≤ 9 * un.toInt) ∧ un.toInt ≤ 60) ∧
  PG code base codes.toNatClampNeg (cnB eW piled.toNatClampNeg + (1 - wn)) ∧
  ∀ j : Nat, (j < base ∨ 560 * rb.toInt + 560 ≤ (j : Int)) → code j = c0 j
section EIS
variable {wn : Int} {eW eS code c0 : Nat → Int32} {base : Nat} {rb codes piled within ur un : Int32}
theorem EI.bds (h : EI wn eW eS code c0 base rb codes piled within ur un) : piled.toInt ≤ 38 ∧ 0 ≤ within.toInt ∧ within.toInt ≤ 7 ∧ 0 ≤ ur.toInt ∧ ur.toInt ≤ 30 ∧ 0 ≤ un.toInt ∧ un.toInt ≤ 60 ∧ codes.toInt - 560 * rb.toInt ≤ 547 ∧ 0 ≤ codes.toInt ∧ 0 ≤ cnB eW piled.toNatClampNeg ∧ cnB eW piled.toNatClampNeg ≤ 30 := by
  obtain ⟨⟨h1, h2, h3, h4⟩, ⟨h5, h6, h7, h8⟩, ⟨h9, h10, h11, h12, h13, h14⟩, -, -⟩ := h
  obtain ⟨a, b, c⟩ := cn_nn eW piled.toNatClampNeg
  have hp : piled.toNatClampNeg = piled.toInt.toNat := rfl
  have hb : piled.toInt ≤ 38 := by
    rcases (show piled.toInt = 0 ∨ 1 ≤ piled.toInt by omega) with q | q
    · omega
    · have := cn_all (g := eS) (h3 q) (piled.toInt.toNat - 1) (fun i i0 i1 => h4 i i0 (by omega))
      rw [show piled.toInt.toNat - 1 + 1 = piled.toNatClampNeg by omega] at this
      omega
  rcases h1 with q | q
  · have := h13 q
    refine ⟨hb, ?_, ?_, ?_, ?_, ?_, ?_, ?_, ?_, ?_, ?_⟩ <;> omega
  · have := h12 q
    refine ⟨hb, ?_, ?_, ?_, ?_, ?_, ?_, ?_, ?_, ?_, ?_⟩ <;> omega
/-- what a push does to the counts -/
theorem cn_push {w : Int32} {eW' : Nat → Int32} {piled' : Int32} (hp : 0 ≤ piled.toInt) (hp' : piled'.toInt = piled.toInt + 1) (e : upd eW piled.toNatClampNeg w = eW') : cnB eW' piled'.toNatClampNeg = cnB eW piled.toNatClampNeg + (if 1 ≤ w.toInt ∧ w.toInt ≤ 6 ∧ w.toInt ≠ 3 then 1 else 0) ∧ cnN eW' piled'.toNatClampNeg = cnN eW piled.toNatClampNeg + (if w.toInt = 3 then 1 else 0) ∧ cnR eW' piled'.toNatClampNeg = cnR eW piled.toNatClampNeg + (if w.toInt = 7 then 1 else 0) := by
  have e1 : piled'.toNatClampNeg = piled.toNatClampNeg + 1 := by show piled'.toInt.toNat = piled.toInt.toNat + 1; omega
  obtain ⟨a, b, c⟩ := cn_upd (f := eW) (k := piled.toNatClampNeg) (v := w) piled.toNatClampNeg (Nat.le_refl _)
  rw [e1, ← e]
  refine ⟨?_, ?_, ?_⟩
  · show cnB (upd eW piled.toNatClampNeg w) piled.toNatClampNeg + (if 1 ≤ (upd eW piled.toNatClampNeg w piled.toNatClampNeg).toInt ∧ (upd eW piled.toNatClampNeg w piled.toNatClampNeg).toInt ≤ 6 ∧ (upd eW piled.toNatClampNeg w piled.toNatClampNeg).toInt ≠ 3 then 1 else 0) = _
    rw [a, upd_at]
  · show cnN (upd eW piled.toNatClampNeg w) piled.toNatClampNeg + (if (upd eW piled.toNatClampNeg w piled.toNatClampNeg).toInt = 3 then 1 else 0) = _
    rw [b, upd_at]
  · show cnR (upd eW piled.toNatClampNeg w) piled.toNatClampNeg + (if (upd eW piled.toNatClampNeg w piled.toNatClampNeg).toInt = 7 then 1 else 0) = _
    rw [c, upd_at]
theorem EO_push {w s : Int32} {eW' eS' : Nat → Int32} {piled' : Int32} (hp : 1 ≤ piled.toInt) (hp' : piled'.toInt = piled.toInt + 1) (e : upd eW piled.toNatClampNeg w = eW') (e2 : upd eS piled.toNatClampNeg s = eS') (h : ∀ i : Nat, 1 ≤ i → (i : Int) < piled.toInt → EO (eW i) (eS i)) (hw : EO w s) (h0 : (eW 0).toInt = 8) : (eW' 0).toInt = 8 ∧ ∀ i : Nat, 1 ≤ i → (i : Int) < piled'.toInt → EO (eW' i) (eS' i) := by
  have hn : piled.toNatClampNeg = piled.toInt.toNat := rfl
  refine ⟨by rw [← e, upd_ne (by omega)]; exact h0, fun i i0 i1 => ?_⟩
  by_cases c : i = piled.toNatClampNeg
  · rw [c, ← e, ← e2, upd_at, upd_at]; exact hw
  · rw [← e, ← e2, upd_ne c, upd_ne c]; exact h i i0 (by omega)
theorem EI.pnot (h : EI 1 eW eS code c0 base rb codes piled within ur un) (hp : 1 ≤ piled.toInt) {w s piled' within' : Int32} {eW' eS' : Nat → Int32} (hw : w.toInt = 3) (hs : s.toInt = 126) (e : upd eW piled.toNatClampNeg w = eW') (e2 : upd eS piled.toNatClampNeg s = eS') (hp' : piled'.toInt = piled.toInt + 1) (hi : within'.toInt = within.toInt + 1) (hi7 : within.toInt ≤ 6) : EI 1 eW' eS' code c0 base rb codes piled' within' ur un := by
  obtain ⟨⟨h1, h2, h3, h4⟩, ⟨h5, h6, h7, h8⟩, ⟨h9, h10, h11, h12, h13, h14⟩, h15, h16⟩ := h
  obtain ⟨a, b, c⟩ := cn_push (w := w) h2 hp' e
  obtain ⟨d0, d1⟩ := EO_push hp hp' e e2 h4 (Or.inl ⟨hw, hs⟩) (h3 hp)
  rw [if_neg (by omega)] at a
  rw [if_pos hw] at b
  rw [if_neg (by omega)] at c
  have k1 := h12 rfl
  refine ⟨⟨Or.inr rfl, by omega, fun _ => d0, d1⟩, ⟨by omega, by omega, by omega, h8⟩, ⟨h9, h10, h11, fun _ => by omega, fun q => by omega, h14⟩, ?_, h16⟩
  rw [a, Int.add_zero]
  exact h15
theorem EI.pbr (h : EI 1 eW eS code c0 base rb codes piled within ur un) (hp : 1 ≤ piled.toInt) {w s piled' within' ur' un' : Int32} {eW' eS' : Nat → Int32} (hw : w.toInt = 7) (e : upd eW piled.toNatClampNeg w = eW') (e2 : upd eS piled.toNatClampNeg s = eS') (hp' : piled'.toInt = piled.toInt + 1) (hi : within'.toInt = within.toInt + 1) (hi7 : within.toInt ≤ 6) (hu : ur'.toInt = ur.toInt + 1) (hu2 : ur.toInt ≤ 29) (hn : un'.toInt = un.toInt + 1) (hn2 : un.toInt ≤ 59) : EI 1 eW' eS' code c0 base rb codes piled' within' ur' un' := by
  obtain ⟨⟨h1, h2, h3, h4⟩, ⟨h5, h6, h7, h8⟩, ⟨h9, h10, h11, h12, h13, h14⟩, h15, h16⟩ := h
  obtain ⟨a, b, c⟩ := cn_push (w := w) h2 hp' e
  obtain ⟨d0, d1⟩ := EO_push hp hp' e e2 h4 (Or.inr (Or.inl hw)) (h3 hp)
  rw [if_neg (by omega)] at a
  rw [if_neg (by omega)] at b
  rw [if_pos hw] at c
  have k1 := h12 rfl
  refine ⟨⟨Or.inr rfl, by omega, fun _ => d0, d1⟩, ⟨by omega, by omega, by omega, by omega⟩, ⟨h9, h10, h11, fun _ => by omega, fun q => by omega, by omega⟩, ?_, h16⟩
  rw [a, Int.add_zero]
  exact h15
theorem EI.punit (h : EI 1 eW eS code c0 base rb codes piled within ur un) {cc codes' ur' un' : Int32} {code' : Nat → Int32} (hc : 97 ≤ cc.toInt) (hc2 : cc.toInt ≤ 122) (e : upd code codes.toNatClampNeg cc = code') (hk : codes'.toInt = codes.toInt + 1) (hu : ur'.toInt = ur.toInt + 1) (hu2 : ur.toInt ≤ 29) (hn : un'.toInt = un.toInt + 1) (hn2 : un.toInt ≤ 59) : EI 0 eW eS code' c0 base rb codes' piled within ur' un' := by
  have hb := h.bds
  obtain ⟨⟨h1, h2, h3, h4⟩, ⟨h5, h6, h7, h8⟩, ⟨h9, h10, h11, h12, h13, h14⟩, h15, h16⟩ := h
  have k1 := h12 rfl
  have hcn : codes.toNatClampNeg = codes.toInt.toNat := rfl
  refine ⟨⟨Or.inl rfl, h2, h3, h4⟩, ⟨h5, h6, by omega, by omega⟩, ⟨by omega, h10, h11, fun q => by omega, fun _ => by omega, by omega⟩, ?_, fun j hj => ?_⟩
  · rw [show codes'.toNatClampNeg = codes.toNatClampNeg + 1 by show codes'.toInt.toNat = codes.toInt.toNat + 1; omega]
    refine h15.snoc (by omega) e ⟨fun q => by omega, fun _ => by omega, fun q1 q2 => by omega, by omega, by omega⟩
  · rw [← e, upd_ne (by omega)]; exact h16 j hj
theorem EI.pbin (h : EI 0 eW eS code c0 base rb codes piled within ur un) (hp : 1 ≤ piled.toInt) {w s piled' : Int32} {eW' eS' : Nat → Int32} (hw1 : 1 ≤ w.toInt) (hw2 : w.toInt ≤ 6) (hw3 : w.toInt ≠ 3) (hs : s.toInt ≠ 126) (hs2 : ¬ (97 ≤ s.toInt ∧ s.toInt ≤ 122)) (e : upd eW piled.toNatClampNeg w = eW') (e2 : upd eS piled.toNatClampNeg s = eS') (hp' : piled'.toInt = piled.toInt + 1) : EI 1 eW' eS' code c0 base rb codes piled' within ur un := by
  obtain ⟨⟨h1, h2, h3, h4⟩, ⟨h5, h6, h7, h8⟩, ⟨h9, h10, h11, h12, h13, h14⟩, h15, h16⟩ := h
  obtain ⟨a, b, c⟩ := cn_push (w := w) h2 hp' e
  obtain ⟨d0, d1⟩ := EO_push hp hp' e e2 h4 (Or.inr (Or.inr ⟨hw1, hw2, hw3, hs, hs2⟩)) (h3 hp)
  rw [if_pos ⟨hw1, hw2, hw3⟩] at a
  rw [if_neg hw3] at b
  rw [if_neg (by omega)] at c
  have k1 := h13 rfl
  have nn := cn_nn eW piled.toNatClampNeg
  refine ⟨⟨Or.inr rfl, by omega, fun _ => d0, d1⟩, ⟨by omega, h6, by omega, h8⟩, ⟨h9, h10, h11, fun _ => by omega, fun q => by omega, h14⟩, ?_, h16⟩
  rw [a, show cnB eW piled.toNatClampNeg + 1 + (1 - 1) = cnB eW piled.toNatClampNeg + (1 - 0) by omega]
  exact h15
/-- what a pop does to the counts -/
theorem cn_pop {piled' : Int32} (hp' : piled'.toInt = piled.toInt - 1) (hp : 1 ≤ piled.toInt) : cnB eW piled.toNatClampNeg = cnB eW piled'.toNatClampNeg + (if 1 ≤ (eW piled'.toNatClampNeg).toInt ∧ (eW piled'.toNatClampNeg).toInt ≤ 6 ∧ (eW piled'.toNatClampNeg).toInt ≠ 3 then 1 else 0) ∧ cnN eW piled.toNatClampNeg = cnN eW piled'.toNatClampNeg + (if (eW piled'.toNatClampNeg).toInt = 3 then 1 else 0) ∧ cnR eW piled.toNatClampNeg = cnR eW piled'.toNatClampNeg + (if (eW piled'.toNatClampNeg).toInt = 7 then 1 else 0) := by
  have e1 : piled.toNatClampNeg = piled'.toNatClampNeg + 1 := by show piled.toInt.toNat = piled'.toInt.toNat + 1; omega
  rw [e1]
  exact ⟨rfl, rfl, rfl⟩
theorem EI.popE (h : EI 0 eW eS code c0 base rb codes piled within ur un) {piled' within' codes' cc : Int32} {code' : Nat → Int32} (hp : 2 ≤ piled.toInt) (hp' : piled'.toInt = piled.toInt - 1) (ht : (eW piled'.toNatClampNeg).toInt ≤ 6) (hi : within'.toInt = within.toInt - (if (eW piled'.toNatClampNeg).toInt = 3 then 1 else 0)) (ec : cc = eS piled'.toNatClampNeg) (e : upd code codes.toNatClampNeg cc = code') (hk : codes'.toInt = codes.toInt + 1) : EI 0 eW eS code' c0 base rb codes' piled' within' ur un := by
  have hb := h.bds
  obtain ⟨⟨h1, h2, h3, h4⟩, ⟨h5, h6, h7, h8⟩, ⟨h9, h10, h11, h12, h13, h14⟩, h15, h16⟩ := h
  obtain ⟨a, b, c⟩ := cn_pop (eW := eW) hp' (by omega)
  have k1 := h13 rfl
  have nn := cn_nn eW piled'.toNatClampNeg
  have hcn : codes.toNatClampNeg = codes.toInt.toNat := rfl
  have hpn : piled'.toNatClampNeg = piled'.toInt.toNat := rfl
  have ho := h4 piled'.toNatClampNeg (by omega) (by omega)
  rw [← ec] at ho
  have hco : codes'.toNatClampNeg = codes.toNatClampNeg + 1 := by show codes'.toInt.toNat = codes.toInt.toNat + 1; omega
  have hkeep : ∀ j : Nat, (j < base ∨ 560 * rb.toInt + 560 ≤ (j : Int)) → code' j = c0 j := fun j hj => by rw [← e, upd_ne (by omega)]; exact h16 j hj
  have hE : ∀ i : Nat, 1 ≤ i → (i : Int) < piled'.toInt → EO (eW i) (eS i) := fun i i0 i1 => h4 i i0 (by omega)
  have h80 : 1 ≤ piled'.toInt → (eW 0).toInt = 8 := fun _ => h3 (by omega)
  rcases ho with ⟨q1, q2⟩ | q | ⟨q1, q2, q3, q4, q5⟩
  · rw [if_neg (by omega)] at a
    rw [if_pos q1] at b hi
    rw [if_neg (by omega)] at c
    refine ⟨⟨Or.inl rfl, by omega, h80, hE⟩, ⟨by omega, by omega, by omega, h8⟩, ⟨by omega, h10, h11, fun q => by omega, fun _ => by omega, h14⟩, ?_, hkeep⟩
    rw [hco]
    refine h15.snoc (by omega) e ⟨fun _ => by omega, fun q => by omega, fun q => by omega, by omega, by omega⟩
  · omega
  · rw [if_pos ⟨q1, q2, q3⟩] at a
    rw [if_neg q3] at b hi
    rw [if_neg (by omega)] at c
    refine ⟨⟨Or.inl rfl, by omega, h80, hE⟩, ⟨by omega, by omega, by omega, h8⟩, ⟨by omega, h10, h11, fun q => by omega, fun _ => by omega, h14⟩, ?_, hkeep⟩
    rw [hco]
    refine h15.snoc (by omega) e ⟨fun q => by omega, fun q => by omega, fun _ _ => by omega, by omega, by omega⟩
theorem EI.popR (h : EI 0 eW eS code c0 base rb codes piled within ur un) {piled' within' : Int32} (hp : 1 ≤ piled.toInt) (hp' : piled'.toInt = piled.toInt - 1) (ht : 7 ≤ (eW piled'.toNatClampNeg).toInt) (hi : within'.toInt = within.toInt - (if (eW piled'.toNatClampNeg).toInt = 7 then 1 else 0)) : EI 0 eW eS code c0 base rb codes piled' within' ur un := by
  have hb := h.bds
  obtain ⟨⟨h1, h2, h3, h4⟩, ⟨h5, h6, h7, h8⟩, ⟨h9, h10, h11, h12, h13, h14⟩, h15, h16⟩ := h
  obtain ⟨a, b, c⟩ := cn_pop (eW := eW) hp' hp
  have k1 := h13 rfl
  have nn := cn_nn eW piled'.toNatClampNeg
  rw [if_neg (by omega)] at a b
  have hi2 : within'.toInt ≤ within.toInt := by split at hi <;> omega
  have hc2 : within'.toInt = cnN eW piled'.toNatClampNeg + cnR eW piled'.toNatClampNeg := by split at hi <;> split at c <;> omega
  refine ⟨⟨Or.inl rfl, by omega, fun _ => h3 (by omega), fun i i0 i1 => h4 i i0 (by omega)⟩, ⟨hc2, by omega, by omega, h8⟩, ⟨h9, h10, h11, fun q => by omega, fun _ => by omega, h14⟩, ?_, h16⟩
  rw [a, Int.add_zero] at h15
  exact h15
end EIS
/-- it falls as a text is read -/
def CMu (fk size en tok : Int32) : Int := if fk.toInt ≠ 0 then 0 else 1 + 2 * (size.toInt - en.toInt) + (if tok.toInt = 0 then 0 else 1)
def PMu (fk size en tok piled : Int32) : Int := if fk.toInt ≠ 0 then 0 else 1 + 100 * (2 * (size.toInt - en.toInt) + (if tok.toInt = 0 then 0 else 1)) + piled.toInt
theorem lc_eq {x y : Int64} {z : Int32} (e : z = lg_cmp x y) (h : z.toInt = 0) : x = y := by
  by_cases h1 : y < x
  · have e1 : lg_cmp x y = 1 := by simp [lg_cmp, h1]
    rw [e, e1] at h
    exact absurd h (by decide)
  · by_cases h2 : x = y
    · exact h2
    · have e1 : lg_cmp x y = -1 := by simp [lg_cmp, h1, h2]
      rw [e, e1] at h
      exact absurd h (by decide)
theorem lc_ne {x y : Int64} {z : Int32} (e : z = lg_cmp x y) (h : z.toInt ≠ 0) : x ≠ y := fun q => by
  subst q
  have e1 : lg_cmp x x = 0 := by simp [lg_cmp]
  rw [e, e1] at h
  exact h (by decide)
theorem CMu.nn {fk size en tok : Int32} (h : en.toInt ≤ size.toInt) : 0 ≤ CMu fk size en tok := by
  unfold CMu
  split
  · omega
  · split <;> omega
theorem CMu.bad {fk size en tok : Int32} (h : fk.toInt ≠ 0) : CMu fk size en tok = 0 := if_pos h
theorem CMu.fl {fk fk' size en tok : Int32} (h : en.toInt ≤ size.toInt) (hf : fk'.toInt ≠ 0) : CMu fk' size en tok ≤ CMu fk size en tok := by
  rw [CMu.bad hf]
  exact CMu.nn h
theorem tfl (t : Int32) : (if t.toInt = 0 then (0 : Int) else 1) = 0 ∧ t.toInt = 0 ∨ (if t.toInt = 0 then (0 : Int) else 1) = 1 ∧ t.toInt ≠ 0 := by
  by_cases d : t.toInt = 0
  · exact Or.inl ⟨if_pos d, d⟩
  · exact Or.inr ⟨if_neg d, d⟩
theorem CMu.g {fk size en tok : Int32} (h : fk.toInt = 0) : CMu fk size en tok = 1 + 2 * (size.toInt - en.toInt) + (if tok.toInt = 0 then 0 else 1) := if_neg (by omega)
theorem PMu.g {fk size en tok pl : Int32} (h : fk.toInt = 0) : PMu fk size en tok pl = 1 + 100 * (2 * (size.toInt - en.toInt) + (if tok.toInt = 0 then 0 else 1)) + pl.toInt := if_neg (by omega)
theorem CMu.go {fk size en tok en' tok' : Int32} (h1 : en.toInt ≤ en'.toInt) (h2 : en'.toInt ≤ size.toInt) (h3 : tok'.toInt ≠ 0 → en.toInt < en'.toInt) : CMu fk size en' tok' ≤ CMu fk size en tok ∧ (fk.toInt = 0 → tok.toInt ≠ 0 → CMu fk size en' tok' < CMu fk size en tok) := by
  by_cases c : fk.toInt = 0
  · rw [CMu.g c, CMu.g c]
    have a := tfl tok
    have b := tfl tok'
    generalize (if tok.toInt = 0 then (0 : Int) else 1) = x at *
    generalize (if tok'.toInt = 0 then (0 : Int) else 1) = y at *
    refine ⟨by omega, fun _ q => by omega⟩
  · rw [CMu.bad c, CMu.bad c]
    exact ⟨Int.le_refl _, fun q => absurd q c⟩
theorem CMu.pos {fk size en tok : Int32} (h : en.toInt ≤ size.toInt) (hf : fk.toInt = 0) : 0 < CMu fk size en tok := by
  unfold CMu
  rw [if_neg (by omega)]
  split <;> omega
def P2 (members nodes mt : Nat → Int32) : Prop := ∀ b : Nat, b < 2 → PI (members b) (nodes b) (fun k => mt (6 * b + k))
theorem P2.more {members nodes nodes' mt : Nat → Int32} {rb : Nat} {v : Int32} (h : P2 members nodes mt) (hr : rb < 2) (hv : v.toInt = (nodes rb).toInt + 1) (e : upd nodes rb v = nodes') : P2 members nodes' mt := by
  intro b hb
  by_cases c : b = rb
  · subst c
    have e1 : nodes' b = v := by rw [← e, upd_at]
    rw [e1]
    exact PI.more (h b hb) hv
  · rw [← e, upd_ne c]
    exact h b hb
theorem P2.add {members nodes members' nodes' mt mt' : Nat → Int32} {rb : Int32} {v z1 z2 i : Int32} (h : P2 members nodes mt) (hmb : ∀ b : Nat, b < 2 → (members b).toInt ≤ 6) (hr : rb.toNatClampNeg < 2) (hz : z1 = nodes rb.toNatClampNeg) (hn0 : 0 ≤ (nodes rb.toNatClampNeg).toInt) (hm0 : 0 ≤ (members rb.toNatClampNeg).toInt) (hm6 : (members rb.toNatClampNeg).toInt ≤ 5) (hi : i.toInt = 6 * (rb.toNatClampNeg : Int) + (members rb.toNatClampNeg).toInt) (hv : v.toInt = (nodes rb.toNatClampNeg).toInt + 1) (hv2 : z2.toInt = (members rb.toNatClampNeg).toInt + 1) (e1 : upd mt i.toNatClampNeg z1 = mt') (e2 : upd members rb.toNatClampNeg z2 = members') (e3 : upd nodes rb.toNatClampNeg v = nodes') : P2 members' nodes' mt' := by
  have hin : i.toNatClampNeg = i.toInt.toNat := rfl
  intro b hb
  by_cases c : b = rb.toNatClampNeg
  · subst c
    have a1 : nodes' rb.toNatClampNeg = v := by rw [← e3, upd_at]
    have a2 : members' rb.toNatClampNeg = z2 := by rw [← e2, upd_at]
    rw [a1, a2]
    refine PI.add (h _ hb) hm0 hn0 hv2 hv ?_
    funext k
    rw [← e1, hz]
    have hmn : (members rb.toNatClampNeg).toNatClampNeg = (members rb.toNatClampNeg).toInt.toNat := rfl
    unfold upd
    by_cases d : k = (members rb.toNatClampNeg).toNatClampNeg
    · rw [if_pos d, if_pos (by omega)]
    · rw [if_neg d, if_neg (by omega)]
  · have q1 : nodes' b = nodes b := by rw [← e3, upd_ne c]
    have q2 : members' b = members b := by rw [← e2, upd_ne c]
    rw [q1, q2]
    have hp := h b hb
    refine ⟨fun x x0 x1 => ?_, fun x y x0 x1 x2 => ?_⟩
    · have := hmb b hb
      show 0 ≤ (mt' (6 * b + x.toInt.toNat)).toInt ∧ (mt' (6 * b + x.toInt.toNat)).toInt < (nodes b).toInt
      rw [← e1, upd_ne (by omega)]
      exact hp.1 x x0 x1
    · have := hmb b hb
      show (mt' (6 * b + x.toInt.toNat)).toInt < (mt' (6 * b + y.toInt.toNat)).toInt
      rw [← e1, upd_ne (by omega), upd_ne (by omega)]
      exact hp.2 x y x0 x1 x2
theorem EI.cu {wn : Int} {eW eS code c0 : Nat → Int32} {base : Nat} {rb codes piled within ur un ur' un' : Int32} (h : EI wn eW eS code c0 base rb codes piled within ur un) (h1 : ur'.toInt = ur.toInt) (h2 : un'.toInt = un.toInt) : EI wn eW eS code c0 base rb codes piled within ur' un' := by
  unfold EI
  rw [h1, h2]
  exact h
theorem EI.top {wn : Int} {eW eS code c0 : Nat → Int32} {base : Nat} {rb codes piled within ur un : Int32} (h : EI wn eW eS code c0 base rb codes piled within ur un) (hp : 1 ≤ piled.toInt) : ∀ z : Int32, z.toInt = piled.toInt - 1 → 1 ≤ (eW z.toNatClampNeg).toInt := by
  intro z hz
  have hzn : z.toNatClampNeg = z.toInt.toNat := rfl
  rcases (show z.toInt = 0 ∨ 1 ≤ z.toInt by omega) with q | q
  · have := h.1.2.2.1 hp
    rw [show z.toNatClampNeg = 0 by omega]
    omega
  · have := h.1.2.2.2 z.toNatClampNeg (by omega) (by omega)
    unfold EO at this
    omega
theorem EI.start {eW eW' eS code : Nat → Int32} {rb codes piled piled0 within ur un w : Int32} (e : upd eW piled0.toNatClampNeg w = eW') (hw : w.toInt = 8) (hp : piled.toInt = 1) (hp0 : piled0.toNatClampNeg = 0) (hi : within.toInt = 0) (hu : ur.toInt = 0) (hc : 560 * rb.toInt ≤ codes.toInt) (hr : 0 ≤ rb.toInt) (hn : codes.toInt - 560 * rb.toInt ≤ 9 * un.toInt ∧ un.toInt ≤ 60) : EI 1 eW' eS code code codes.toNatClampNeg rb codes piled within ur un := by
  have hpn : piled.toNatClampNeg = 1 := by show piled.toInt.toNat = 1; omega
  have e0 : (eW' 0).toInt = 8 := by rw [← e, hp0, upd_at]; exact hw
  have c1 : cnB eW' 1 = 0 ∧ cnN eW' 1 = 0 ∧ cnR eW' 1 = 0 := by
    unfold cnB cnN cnR cnB cnN cnR
    rw [e0]
    decide
  have hcn : (codes.toNatClampNeg : Int) = codes.toInt := by show (codes.toInt.toNat : Int) = _; omega
  refine ⟨⟨Or.inr rfl, by omega, fun _ => e0, fun i i0 i1 => by omega⟩, ?_, ?_, ?_, fun _ _ => rfl⟩
  · rw [hpn, c1.1, c1.2.1, c1.2.2]
    omega
  · rw [hpn, c1.1, c1.2.1]
    refine ⟨by omega, by omega, hr, fun _ => by omega, fun q => by omega, hn.2⟩
  · rw [hpn, c1.1]
    exact PG.z
theorem EI.fin {L : Int} {eW eS code c0 : Nat → Int32} {base : Nat} {rb codes piled within ur un : Int32} (h : EI L eW eS code c0 base rb codes piled within ur un) (hp : piled.toInt ≤ 0) : codes.toInt - 560 * rb.toInt ≤ 9 * un.toInt := by
  obtain ⟨⟨h1, h2, h3, h4⟩, ⟨h5, h6, h7, h8⟩, ⟨h9, h10, h11, h12, h13, h14⟩, -, -⟩ := h
  have hpn : piled.toNatClampNeg = 0 := by show piled.toInt.toNat = 0; omega
  rw [hpn] at h5 h12 h13
  have z1 : cnB eW 0 = 0 := rfl
  have z2 : cnN eW 0 = 0 := rfl
  have z3 : cnR eW 0 = 0 := rfl
  rcases h1 with q | q
  · have := h13 q
    omega
  · have := h12 q
    omega
theorem PMu.lt {fk fk' size en tok en' tok' pl pl' : Int32} (hp : 0 ≤ pl.toInt ∧ pl.toInt ≤ 38 ∧ en.toInt ≤ size.toInt) (hf : fk.toInt = 0) (h : fk'.toInt = 0 → (CMu fk' size en' tok' < CMu fk size en tok ∧ pl'.toInt ≤ pl.toInt + 1) ∨ (CMu fk' size en' tok' ≤ CMu fk size en tok ∧ pl'.toInt < pl.toInt)) : PMu fk' size en' tok' pl' < PMu fk size en tok pl := by
  rw [PMu.g hf]
  have a := tfl tok
  by_cases c : fk'.toInt = 0
  · have q := h c
    rw [CMu.g c, CMu.g hf] at q
    rw [PMu.g c]
    generalize (if tok.toInt = 0 then (0 : Int) else 1) = x at *
    generalize (if tok'.toInt = 0 then (0 : Int) else 1) = y at *
    omega
  · rw [show PMu fk' size en' tok' pl' = 0 from if_pos c]
    generalize (if tok.toInt = 0 then (0 : Int) else 1) = x at *
    omega
def wo_k_M_fault : List Cond := [.fieldLink RX7 16 "ReplicaChainModel" "faultPlace" "I", .fieldLink RX7 122 "ReplicaChainModel" "faultKind" "I"]
def wq_k_M_fault : List Cond := .code yX7_fault cX7_fault 2 (some .int) :: (wo_k_M_fault ++ (wsX70 ++ []))
theorem gd_k_M_fault : Gd wq_k_M_fault := gd_c (gd_a (gd_o (by decide +kernel)) (gd_a gd_u gd_0))
abbrev wc_k_M_fault (cyB cyI cyJ cyZ cyO : ClassId) (hM : Nat) (md : Nat → Nat) (m_taped : Int32) (m_size : Int32) (m_faultKind : Int32) (m_faultPlace : Int32) (m_at : Int32) (m_end : Int32) (m_token : Int32) (m_number : Int32) (m_bank : Int32) (m_rb : Int32) (m_codes : Int32) (m_within : Int32) (m_piled : Int32) (m_unitsInRule : Int32) (m_askFrom : Int32) (m_askTo : Int32) (m_askWrite : Int32) (m_askUnder : Int32) (m_askBack : Int32) (m_thoughtSlow : Int32) (m_came : Int32) (m_acts : Int32) (m_undone : Int32) (m_laid : Int32) (m_seens : Int32) (m_time : Int32) (m_name : Int64) (x1 : Int32) : va_W := [(hM, .inr (7, [.ref (md 0), .ref (md 1), .int m_taped, .int m_size, .int m_faultKind, .int m_faultPlace, .int m_at, .int m_end, .int m_token, .int m_number, .long m_name, .ref (md 11), .ref (md 12), .ref (md 13), .ref (md 14), .ref (md 15), .ref (md 16), .ref (md 17), .ref (md 18), .ref (md 19), .ref (md 20), .ref (md 21), .ref (md 22), .ref (md 23), .ref (md 24), .ref (md 25), .ref (md 26), .ref (md 27), .ref (md 28), .int m_bank, .int m_rb, .int m_codes, .int m_within, .int m_piled, .int m_unitsInRule, .int m_askFrom, .int m_askTo, .int m_askWrite, .int m_askUnder, .int m_askBack, .ref (md 40), .ref (md 41), .int m_thoughtSlow, .int m_came, .ref (md 44), .int m_acts, .int m_undone, .ref (md 47), .ref (md 48), .int m_laid, .ref (md 50), .ref (md 51), .ref (md 52), .ref (md 53), .ref (md 54), .int m_seens, .int m_time, .ref (md 57), .ref (md 58)]))]
set_option maxHeartbeats 4000000 in
set_option maxRecDepth 100000 in
theorem k_M_fault (l : Launch) (dC : Nat → ClassId) (dI : Nat → Nat → Nat) (cyB cyI cyJ cyZ cyO : ClassId) (hM : Nat) (md : Nat → Nat) (m_taped : Int32) (m_size : Int32) (m_faultKind : Int32) (m_faultPlace : Int32) (m_at : Int32) (m_end : Int32) (m_token : Int32) (m_number : Int32) (m_bank : Int32) (m_rb : Int32) (m_codes : Int32) (m_within : Int32) (m_piled : Int32) (m_unitsInRule : Int32) (m_askFrom : Int32) (m_askTo : Int32) (m_askWrite : Int32) (m_askUnder : Int32) (m_askBack : Int32) (m_thoughtSlow : Int32) (m_came : Int32) (m_acts : Int32) (m_undone : Int32) (m_laid : Int32) (m_seens : Int32) (m_time : Int32) (m_name : Int64) (x1 : Int32) (sz : Nat) (l_m_taped : 0 ≤ m_taped.toInt) (u_m_taped : m_taped.toInt ≤ 1600) (l_m_size : 0 ≤ m_size.toInt) (u_m_size : m_size.toInt ≤ 1600) (l_m_bank : 0 ≤ m_bank.toInt) (u_m_bank : m_bank.toInt ≤ 1) (l_m_rb : 0 ≤ m_rb.toInt) (u_m_rb : m_rb.toInt ≤ 1) (l_m_acts : 0 ≤ m_acts.toInt) (u_m_acts : m_acts.toInt ≤ 40) (l_m_undone : 0 ≤ m_undone.toInt) (u_m_undone : m_undone.toInt ≤ 40) (l_m_laid : 0 ≤ m_laid.toInt) (u_m_laid : m_laid.toInt ≤ 6) (l_m_seens : 0 ≤ m_seens.toInt) (u_m_seens : m_seens.toInt ≤ 30) (l_m_time : 0 ≤ m_time.toInt) (u_m_time : m_time.toInt ≤ 100000) : Met l yX7_fault wq_k_M_fault ({ frames := 0, cells := 0, slots := 0, locals := 0 }) (va_Pc [.ref hM, .int x1] (cB (dC, dI) (kT cyB cyI cyJ cyZ cyO) (wc_k_M_fault cyB cyI cyJ cyZ cyO hM md m_taped m_size m_faultKind m_faultPlace m_at m_end m_token m_number m_bank m_rb m_codes m_within m_piled m_unitsInRule m_askFrom m_askTo m_askWrite m_askUnder m_askBack m_thoughtSlow m_came m_acts m_undone m_laid m_seens m_time m_name x1) sz)) (va_Qi (fun (r : Int32) (u : Unit) => True) (fun (u : Unit) t => cE (dC, dI) (va_A (wc_k_M_fault cyB cyI cyJ cyZ cyO hM md m_taped m_size m_faultKind m_faultPlace m_at m_end m_token m_number m_bank m_rb m_codes m_within m_piled m_unitsInRule m_askFrom m_askTo m_askWrite m_askUnder m_askBack m_thoughtSlow m_came m_acts m_undone m_laid m_seens m_time m_name x1) sz) ([(hM, .inr (7, [.ref (md 0), .ref (md 1), .int m_taped, .int m_size, .int m_faultKind, .int m_faultPlace, .int m_at, .int m_end, .int m_token, .int m_number, .long m_name, .ref (md 11), .ref (md 12), .ref (md 13), .ref (md 14), .ref (md 15), .ref (md 16), .ref (md 17), .ref (md 18), .ref (md 19), .ref (md 20), .ref (md 21), .ref (md 22), .ref (md 23), .ref (md 24), .ref (md 25), .ref (md 26), .ref (md 27), .ref (md 28), .int m_bank, .int m_rb, .int m_codes, .int m_within, .int m_piled, .int m_unitsInRule, .int m_askFrom, .int m_askTo, .int m_askWrite, .int m_askUnder, .int m_askBack, .ref (md 40), .ref (md 41), .int m_thoughtSlow, .int m_came, .ref (md 44), .int m_acts, .int m_undone, .ref (md 47), .ref (md 48), .int m_laid, .ref (md 50), .ref (md 51), .ref (md 52), .ref (md 53), .ref (md 54), .int m_seens, .int m_time, .ref (md 57), .ref (md 58)]))]) t.heap) (va_A (wc_k_M_fault cyB cyI cyJ cyZ cyO hM md m_taped m_size m_faultKind m_faultPlace m_at m_end m_token m_number m_bank m_rb m_codes m_within m_piled m_unitsInRule m_askFrom m_askTo m_askWrite m_askUnder m_askBack m_thoughtSlow m_came m_acts m_undone m_laid m_seens m_time m_name x1) sz)) 0 0 (va_A (wc_k_M_fault cyB cyI cyJ cyZ cyO hM md m_taped m_size m_faultKind m_faultPlace m_at m_end m_token m_number m_bank m_rb m_codes m_within m_piled m_unitsInRule m_askFrom m_askTo m_askWrite m_askUnder m_askBack m_thoughtSlow m_came m_acts m_undone m_laid m_seens m_time m_name x1) sz) := by
  refine Met.ofW (cc := cX7_fault) (maxL := 2) (ret := (some .int)) (by decide) rfl ?_
  intro p e s m args below meth c s₁ B hml hv
  obtain ⟨rfl, hsz, hP, hKN, hD0⟩ := hv
  have hx := B.exec
  have hb := B.bytes
  have hr := B.returns
  have hts := atoms_spec (ws := wq_k_M_fault) B.pre
  have hown : s.vm.findClass RX7 = some m.cls := findClass_of_methodNamed B.named
  have hlocks := B.notSynchronized
  have hK := hKN.1
  have hfix : CallFix p m c cX7_fault 2 s [.ref hM, .int x1].toArray wq_k_M_fault RX7 := ⟨hx, hb, hml, hown, hts⟩
  have hi7 : ∀ w ∈ wsX70, w ∈ wq_k_M_fault := (sb_c sb_l)
  subst hsz
  have hD := hD0.self (sz := s.heap.size)
  generalize hAe : va_A (wc_k_M_fault cyB cyI cyJ cyZ cyO hM md m_taped m_size m_faultKind m_faultPlace m_at m_end m_token m_number m_bank m_rb m_codes m_within m_piled m_unitsInRule m_askFrom m_askTo m_askWrite m_askUnder m_askBack m_thoughtSlow m_came m_acts m_undone m_laid m_seens m_time m_name x1) s.heap.size = A at hD ⊢
  have hA : ∀ q : Nat, s.heap.size ≤ q → A q := fun q h => by rw [← hAe]; exact Or.inr h
  have hS : va_S A s.heap s.heap [] := va_S.rf
  have hl := lv_entry ([.ref hM, .int x1]) (n := 2) (Nat.le_of_ble_eq_true rfl)
  rw [lg_entry_eq]
  generalize (lg_sl ([.ref hM, .int x1]) ++ List.replicate (2 - (lg_sl ([.ref hM, .int x1])).length) Slot.unset).toArray = ls at hl ⊢
  have hl : lv_has ls 2 [(0, .ref hM), (1, .int x1)] := hl
  refine lv_iload_n hx hb dX7_fault_0 rfl (lv_at hl 1 rfl) ?_
  refine lv_if_ne (tgt := 11) hx hb dX7_fault_1 (by decide) (fun c139620 => ?_) (fun c139620 => ?_)
  · have c139620 := i_ne (a := x1.toInt) (b := 0) c139620 rfl (by decide)
    refine lv_iload_n hx hb dX7_fault_11 rfl (lv_at hl 1 rfl) ?_
    refine lv_iconst (v := 1) hx hb dX7_fault_12 (by decide) ?_
    refine lv_icmp_ne (tgt := 23) hx hb dX7_fault_13 (by decide) (fun c139621 => ?_) (fun c139621 => ?_)
    · have c139621 := i_ne (a := x1.toInt) (b := 1) c139621 rfl (by decide)
      refine lv_iconst (v := (-1)) hx hb dX7_fault_23 (by decide) ?_
      exact W.iret (v := (-1)) hx hb hr (fun t ht hW => ⟨⟨(-1), (), rfl, trivial, cE.of ht hP hD [0] (by decide) rfl⟩, hS.F ht⟩) hS.2.2 dX7_fault_24
    · have c139621 := i_eq (a := x1.toInt) (b := 1) c139621 rfl (by decide)
      refine lv_aload_n hx hb dX7_fault_16 rfl (lv_at hl 0 rfl) ?_
      refine va_get (D := (dC, dI)) (ci := 7) (v := .int m_faultPlace) (C := RX7) (T := TX7) (N := 59) hx hb hts hi7 hown hK hP 0 rfl rfl 5 (by decide) (hts _ (ow_m (k := 0) rfl)) (fun _ h9 => h9) rfl dX7_fault_17 ?_
      refine lv_goto (tgt := 24) hx hb dX7_fault_20 (by decide) ?_
      exact W.iret (v := m_faultPlace) hx hb hr (fun t ht hW => ⟨⟨m_faultPlace, (), rfl, trivial, cE.of ht hP hD [0] (by decide) rfl⟩, hS.F ht⟩) hS.2.2 dX7_fault_24
  · have c139620 := i_eq (a := x1.toInt) (b := 0) c139620 rfl (by decide)
    refine lv_aload_n hx hb dX7_fault_4 rfl (lv_at hl 0 rfl) ?_
    refine va_get (D := (dC, dI)) (ci := 7) (v := .int m_faultKind) (C := RX7) (T := TX7) (N := 59) hx hb hts hi7 hown hK hP 0 rfl rfl 4 (by decide) (hts _ (ow_m (k := 1) rfl)) (fun _ h9 => h9) rfl dX7_fault_5 ?_
    refine lv_goto (tgt := 24) hx hb dX7_fault_8 (by decide) ?_
    exact W.iret (v := m_faultKind) hx hb hr (fun t ht hW => ⟨⟨m_faultKind, (), rfl, trivial, cE.of ht hP hD [0] (by decide) rfl⟩, hS.F ht⟩) hS.2.2 dX7_fault_24
def wo_k_M_sign2 : List Cond := [.fieldLink RX7 119 "ReplicaChainModel" "size" "I", .fieldLink RX7 13 "ReplicaChainModel" "text" "[B"]
def wq_k_M_sign2 : List Cond := .code yX7_sign cX7_sign 2 (some .int) :: (wo_k_M_sign2 ++ (wsX70 ++ []))
theorem gd_k_M_sign2 : Gd wq_k_M_sign2 := gd_c (gd_a (gd_o (by decide +kernel)) (gd_a gd_u gd_0))
abbrev wc_k_M_sign2 (cyB cyI cyJ cyZ cyO : ClassId) (hM : Nat) (md : Nat → Nat) (m_text : Nat → Int32) (m_taped : Int32) (m_size : Int32) (m_faultKind : Int32) (m_faultPlace : Int32) (m_at : Int32) (m_end : Int32) (m_token : Int32) (m_number : Int32) (m_bank : Int32) (m_rb : Int32) (m_codes : Int32) (m_within : Int32) (m_piled : Int32) (m_unitsInRule : Int32) (m_askFrom : Int32) (m_askTo : Int32) (m_askWrite : Int32) (m_askUnder : Int32) (m_askBack : Int32) (m_thoughtSlow : Int32) (m_came : Int32) (m_acts : Int32) (m_undone : Int32) (m_laid : Int32) (m_seens : Int32) (m_time : Int32) (m_name : Int64) (x1 : Int32) : va_W := [(hM, .inr (7, [.ref (md 0), .ref (md 1), .int m_taped, .int m_size, .int m_faultKind, .int m_faultPlace, .int m_at, .int m_end, .int m_token, .int m_number, .long m_name, .ref (md 11), .ref (md 12), .ref (md 13), .ref (md 14), .ref (md 15), .ref (md 16), .ref (md 17), .ref (md 18), .ref (md 19), .ref (md 20), .ref (md 21), .ref (md 22), .ref (md 23), .ref (md 24), .ref (md 25), .ref (md 26), .ref (md 27), .ref (md 28), .int m_bank, .int m_rb, .int m_codes, .int m_within, .int m_piled, .int m_unitsInRule, .int m_askFrom, .int m_askTo, .int m_askWrite, .int m_askUnder, .int m_askBack, .ref (md 40), .ref (md 41), .int m_thoughtSlow, .int m_came, .ref (md 44), .int m_acts, .int m_undone, .ref (md 47), .ref (md 48), .int m_laid, .ref (md 50), .ref (md 51), .ref (md 52), .ref (md 53), .ref (md 54), .int m_seens, .int m_time, .ref (md 57), .ref (md 58)])), (md 1, .inl (cyB, 1600, .inl m_text))]
set_option maxHeartbeats 4000000 in
set_option maxRecDepth 100000 in
theorem k_M_sign2 (l : Launch) (dC : Nat → ClassId) (dI : Nat → Nat → Nat) (cyB cyI cyJ cyZ cyO : ClassId) (hM : Nat) (md : Nat → Nat) (m_text : Nat → Int32) (m_taped : Int32) (m_size : Int32) (m_faultKind : Int32) (m_faultPlace : Int32) (m_at : Int32) (m_end : Int32) (m_token : Int32) (m_number : Int32) (m_bank : Int32) (m_rb : Int32) (m_codes : Int32) (m_within : Int32) (m_piled : Int32) (m_unitsInRule : Int32) (m_askFrom : Int32) (m_askTo : Int32) (m_askWrite : Int32) (m_askUnder : Int32) (m_askBack : Int32) (m_thoughtSlow : Int32) (m_came : Int32) (m_acts : Int32) (m_undone : Int32) (m_laid : Int32) (m_seens : Int32) (m_time : Int32) (m_name : Int64) (x1 : Int32) (sz : Nat) (l_m_taped : 0 ≤ m_taped.toInt) (u_m_taped : m_taped.toInt ≤ 1600) (l_m_size : 0 ≤ m_size.toInt) (u_m_size : m_size.toInt ≤ 1600) (l_m_bank : 0 ≤ m_bank.toInt) (u_m_bank : m_bank.toInt ≤ 1) (l_m_rb : 0 ≤ m_rb.toInt) (u_m_rb : m_rb.toInt ≤ 1) (l_m_acts : 0 ≤ m_acts.toInt) (u_m_acts : m_acts.toInt ≤ 40) (l_m_undone : 0 ≤ m_undone.toInt) (u_m_undone : m_undone.toInt ≤ 40) (l_m_laid : 0 ≤ m_laid.toInt) (u_m_laid : m_laid.toInt ≤ 6) (l_m_seens : 0 ≤ m_seens.toInt) (u_m_seens : m_seens.toInt ≤ 30) (l_m_time : 0 ≤ m_time.toInt) (u_m_time : m_time.toInt ≤ 100000) (l_x1 : 0 ≤ x1.toInt) (u_x1 : x1.toInt ≤ 1600) : Met l yX7_sign wq_k_M_sign2 ({ frames := 0, cells := 0, slots := 0, locals := 0 }) (va_Pc [.ref hM, .int x1] (cB (dC, dI) (kT cyB cyI cyJ cyZ cyO) (wc_k_M_sign2 cyB cyI cyJ cyZ cyO hM md m_text m_taped m_size m_faultKind m_faultPlace m_at m_end m_token m_number m_bank m_rb m_codes m_within m_piled m_unitsInRule m_askFrom m_askTo m_askWrite m_askUnder m_askBack m_thoughtSlow m_came m_acts m_undone m_laid m_seens m_time m_name x1) sz)) (va_Qi (fun (r : Int32) (u : Unit) => (0 ≤ r.toInt) ∧ (r.toInt ≤ 255) ∧ (r = sgn m_text m_size x1) ∧ (m_size.toInt ≤ x1.toInt → r.toInt = 0)) (fun (u : Unit) t => cE (dC, dI) (va_A (wc_k_M_sign2 cyB cyI cyJ cyZ cyO hM md m_text m_taped m_size m_faultKind m_faultPlace m_at m_end m_token m_number m_bank m_rb m_codes m_within m_piled m_unitsInRule m_askFrom m_askTo m_askWrite m_askUnder m_askBack m_thoughtSlow m_came m_acts m_undone m_laid m_seens m_time m_name x1) sz) ([(hM, .inr (7, [.ref (md 0), .ref (md 1), .int m_taped, .int m_size, .int m_faultKind, .int m_faultPlace, .int m_at, .int m_end, .int m_token, .int m_number, .long m_name, .ref (md 11), .ref (md 12), .ref (md 13), .ref (md 14), .ref (md 15), .ref (md 16), .ref (md 17), .ref (md 18), .ref (md 19), .ref (md 20), .ref (md 21), .ref (md 22), .ref (md 23), .ref (md 24), .ref (md 25), .ref (md 26), .ref (md 27), .ref (md 28), .int m_bank, .int m_rb, .int m_codes, .int m_within, .int m_piled, .int m_unitsInRule, .int m_askFrom, .int m_askTo, .int m_askWrite, .int m_askUnder, .int m_askBack, .ref (md 40), .ref (md 41), .int m_thoughtSlow, .int m_came, .ref (md 44), .int m_acts, .int m_undone, .ref (md 47), .ref (md 48), .int m_laid, .ref (md 50), .ref (md 51), .ref (md 52), .ref (md 53), .ref (md 54), .int m_seens, .int m_time, .ref (md 57), .ref (md 58)])), (md 1, .inl (cyB, 1600, .inl m_text))]) t.heap) (va_A (wc_k_M_sign2 cyB cyI cyJ cyZ cyO hM md m_text m_taped m_size m_faultKind m_faultPlace m_at m_end m_token m_number m_bank m_rb m_codes m_within m_piled m_unitsInRule m_askFrom m_askTo m_askWrite m_askUnder m_askBack m_thoughtSlow m_came m_acts m_undone m_laid m_seens m_time m_name x1) sz)) 0 0 (va_A (wc_k_M_sign2 cyB cyI cyJ cyZ cyO hM md m_text m_taped m_size m_faultKind m_faultPlace m_at m_end m_token m_number m_bank m_rb m_codes m_within m_piled m_unitsInRule m_askFrom m_askTo m_askWrite m_askUnder m_askBack m_thoughtSlow m_came m_acts m_undone m_laid m_seens m_time m_name x1) sz) := by
  refine Met.ofW (cc := cX7_sign) (maxL := 2) (ret := (some .int)) (by decide) rfl ?_
  intro p e s m args below meth c s₁ B hml hv
  obtain ⟨rfl, hsz, hP, hKN, hD0⟩ := hv
  have hx := B.exec
  have hb := B.bytes
  have hr := B.returns
  have hts := atoms_spec (ws := wq_k_M_sign2) B.pre
  have hown : s.vm.findClass RX7 = some m.cls := findClass_of_methodNamed B.named
  have hlocks := B.notSynchronized
  have hK := hKN.1
  have hfix : CallFix p m c cX7_sign 2 s [.ref hM, .int x1].toArray wq_k_M_sign2 RX7 := ⟨hx, hb, hml, hown, hts⟩
  have hi7 : ∀ w ∈ wsX70, w ∈ wq_k_M_sign2 := (sb_c sb_l)
  subst hsz
  have hD := hD0.self (sz := s.heap.size)
  generalize hAe : va_A (wc_k_M_sign2 cyB cyI cyJ cyZ cyO hM md m_text m_taped m_size m_faultKind m_faultPlace m_at m_end m_token m_number m_bank m_rb m_codes m_within m_piled m_unitsInRule m_askFrom m_askTo m_askWrite m_askUnder m_askBack m_thoughtSlow m_came m_acts m_undone m_laid m_seens m_time m_name x1) s.heap.size = A at hD ⊢
  have hA : ∀ q : Nat, s.heap.size ≤ q → A q := fun q h => by rw [← hAe]; exact Or.inr h
  have hS : va_S A s.heap s.heap [] := va_S.rf
  have hl := lv_entry ([.ref hM, .int x1]) (n := 2) (Nat.le_of_ble_eq_true rfl)
  rw [lg_entry_eq]
  generalize (lg_sl ([.ref hM, .int x1]) ++ List.replicate (2 - (lg_sl ([.ref hM, .int x1])).length) Slot.unset).toArray = ls at hl ⊢
  have hl : lv_has ls 2 [(0, .ref hM), (1, .int x1)] := hl
  have ck0 : (0 : Int32).toInt = 0 := by decide
  refine lv_iload_n hx hb dX7_sign_0 rfl (lv_at hl 1 rfl) ?_
  refine lv_aload_n hx hb dX7_sign_1 rfl (lv_at hl 0 rfl) ?_
  refine va_get (D := (dC, dI)) (ci := 7) (v := .int m_size) (C := RX7) (T := TX7) (N := 59) hx hb hts hi7 hown hK hP 0 rfl rfl 3 (by decide) (hts _ (ow_m (k := 0) rfl)) (fun _ h9 => h9) rfl dX7_sign_2 ?_
  refine lv_icmp_ge (tgt := 21) hx hb dX7_sign_5 (by decide) (fun c139625 => ?_) (fun c139625 => ?_)
  · have c139625 := i_le (a := m_size.toInt) (b := x1.toInt) c139625 rfl rfl
    refine lv_iconst (v := 0) hx hb dX7_sign_21 (by decide) ?_
    have hs1 : (0 : Int32) = sgn m_text m_size x1 := (sgn_ge (by omega)).symm
    have w139626 : 0 ≤ (0 : Int32).toInt := by first | omega | assumption | rfl | (intros; rfl)
    have w139627 : (0 : Int32).toInt ≤ 255 := by first | omega | assumption | rfl | (intros; rfl)
    have w139628 : (0 : Int32) = sgn m_text m_size x1 := by first | omega | assumption | rfl | (intros; rfl)
    have w139629 : m_size.toInt ≤ x1.toInt → (0 : Int32).toInt = 0 := by first | omega | assumption | rfl | (intros; rfl)
    exact W.iret (v := 0) hx hb hr (fun t ht hW => ⟨⟨0, (), rfl, ⟨w139626, w139627, w139628, w139629⟩, cE.of ht hP hD [0, 1] (by decide) rfl⟩, hS.F ht⟩) hS.2.2 dX7_sign_22
  · have c139625 := i_nle (a := m_size.toInt) (b := x1.toInt) c139625 rfl rfl
    refine lv_aload_n hx hb dX7_sign_8 rfl (lv_at hl 0 rfl) ?_
    refine va_get (D := (dC, dI)) (ci := 7) (v := .ref (md 1)) (C := RX7) (T := TX7) (N := 59) hx hb hts hi7 hown hK hP 0 rfl rfl 1 (by decide) (hts _ (ow_m (k := 1) rfl)) (fun _ h9 => h9) rfl dX7_sign_9 ?_
    refine lv_iload_n hx hb dX7_sign_12 rfl (lv_at hl 1 rfl) ?_
    refine va_bald hx hb hK hP 1 0 rfl rfl (vp_i rfl (by omega) (by omega)) dX7_sign_13 ?_
    refine lv_topi (fun z139630 ez139630 => ?_)
    refine lv_sipush (v := 255) hx hb dX7_sign_14 (by decide) ?_
    refine lv_iand hx hb dX7_sign_17 ?_
    refine lv_topi (fun z139631 ez139631 => ?_)
    have tz139631 := ti_and z139630 (m := 255) 8 ez139631 rfl (by decide)
    refine lv_goto (tgt := 22) hx hb dX7_sign_18 (by decide) ?_
    have hs1 : z139631 = sgn m_text m_size x1 := by rw [sgn_lt (by omega), ez139631, ez139630]
    have w139632 : 0 ≤ z139631.toInt := by first | omega | assumption | rfl | (intros; rfl)
    have w139633 : z139631.toInt ≤ 255 := by first | omega | assumption | rfl | (intros; rfl)
    have w139634 : z139631 = sgn m_text m_size x1 := by first | omega | assumption | rfl | (intros; rfl)
    have w139635 : m_size.toInt ≤ x1.toInt → z139631.toInt = 0 := by first | omega | assumption | rfl | (intros; rfl)
    exact W.iret (v := z139631) hx hb hr (fun t ht hW => ⟨⟨z139631, (), rfl, ⟨w139632, w139633, w139634, w139635⟩, cE.of ht hP hD [0, 1] (by decide) rfl⟩, hS.F ht⟩) hS.2.2 dX7_sign_22
def wo_k_M_isDigit2 : List Cond := []
def wq_k_M_isDigit2 : List Cond := .code yX7_isDigit cX7_isDigit 1 (some .boolean) :: (wo_k_M_isDigit2 ++ [])
theorem gd_k_M_isDigit2 : Gd wq_k_M_isDigit2 := gd_c (gd_a (gd_o (by decide +kernel)) gd_0)
abbrev wc_k_M_isDigit2 (cyB cyI cyJ cyZ cyO : ClassId) (x0 : Int32) : va_W := []
set_option maxHeartbeats 4000000 in
set_option maxRecDepth 100000 in
theorem k_M_isDigit2 (l : Launch) (dC : Nat → ClassId) (dI : Nat → Nat → Nat) (cyB cyI cyJ cyZ cyO : ClassId) (x0 : Int32) (sz : Nat) : Met l yX7_isDigit wq_k_M_isDigit2 ({ frames := 0, cells := 0, slots := 0, locals := 0 }) (va_Pc [.int x0] (cB (dC, dI) (kT cyB cyI cyJ cyZ cyO) (wc_k_M_isDigit2 cyB cyI cyJ cyZ cyO x0) sz)) (va_Qi (fun (r : Int32) (u : Unit) => (((r = 1 ∧ (48 ≤ x0.toInt) ∧ (x0.toInt ≤ 57)) ∨ (r = 0 ∧ (¬ (48 ≤ x0.toInt ∧ x0.toInt ≤ 57)))))) (fun (u : Unit) t => cE (dC, dI) (va_A (wc_k_M_isDigit2 cyB cyI cyJ cyZ cyO x0) sz) ([]) t.heap) (va_A (wc_k_M_isDigit2 cyB cyI cyJ cyZ cyO x0) sz)) 0 0 (va_A (wc_k_M_isDigit2 cyB cyI cyJ cyZ cyO x0) sz) := by
  refine Met.ofW (cc := cX7_isDigit) (maxL := 1) (ret := (some .boolean)) (by decide) rfl ?_
  intro p e s m args below meth c s₁ B hml hv
  obtain ⟨rfl, hsz, hP, hKN, hD0⟩ := hv
  have hx := B.exec
  have hb := B.bytes
  have hr := B.returns
  have hts := atoms_spec (ws := wq_k_M_isDigit2) B.pre
  have hown : s.vm.findClass RX7 = some m.cls := findClass_of_methodNamed B.named
  have hlocks := B.notSynchronized
  have hK := hKN.1
  have hfix : CallFix p m c cX7_isDigit 1 s [.int x0].toArray wq_k_M_isDigit2 RX7 := ⟨hx, hb, hml, hown, hts⟩
  subst hsz
  have hD := hD0.self (sz := s.heap.size)
  generalize hAe : va_A (wc_k_M_isDigit2 cyB cyI cyJ cyZ cyO x0) s.heap.size = A at hD ⊢
  have hA : ∀ q : Nat, s.heap.size ≤ q → A q := fun q h => by rw [← hAe]; exact Or.inr h
  have hS : va_S A s.heap s.heap [] := va_S.rf
  have hl := lv_entry ([.int x0]) (n := 1) (Nat.le_of_ble_eq_true rfl)
  rw [lg_entry_eq]
  generalize (lg_sl ([.int x0]) ++ List.replicate (1 - (lg_sl ([.int x0])).length) Slot.unset).toArray = ls at hl ⊢
  have hl : lv_has ls 1 [(0, .int x0)] := hl
  refine lv_iload_n hx hb dX7_isDigit_0 rfl (lv_at hl 0 rfl) ?_
  refine lv_bipush (v := 48) hx hb dX7_isDigit_1 (by decide) ?_
  refine lv_icmp_lt (tgt := 16) hx hb dX7_isDigit_3 (by decide) (fun c139638 => ?_) (fun c139638 => ?_)
  · have c139638 := i_lt (a := x0.toInt) (b := 48) c139638 rfl (by decide)
    refine lv_iconst (v := 0) hx hb dX7_isDigit_16 (by decide) ?_
    have w139639 : ¬ (48 ≤ x0.toInt ∧ x0.toInt ≤ 57) := by first | omega | assumption | rfl
    exact W.zret (v := 0) hx hb hr (by decide) (fun t ht hW => ⟨⟨0, (), rfl, (Or.inr ⟨rfl, w139639⟩), cE.of ht hP hD [] (by decide) rfl⟩, hS.F ht⟩) hS.2.2 dX7_isDigit_17
  · have c139638 := i_nlt (a := x0.toInt) (b := 48) c139638 rfl (by decide)
    refine lv_iload_n hx hb dX7_isDigit_6 rfl (lv_at hl 0 rfl) ?_
    refine lv_bipush (v := 57) hx hb dX7_isDigit_7 (by decide) ?_
    refine lv_icmp_gt (tgt := 16) hx hb dX7_isDigit_9 (by decide) (fun c139640 => ?_) (fun c139640 => ?_)
    · have c139640 := i_lt (a := 57) (b := x0.toInt) c139640 (by decide) rfl
      refine lv_iconst (v := 0) hx hb dX7_isDigit_16 (by decide) ?_
      have w139641 : ¬ (48 ≤ x0.toInt ∧ x0.toInt ≤ 57) := by first | omega | assumption | rfl
      exact W.zret (v := 0) hx hb hr (by decide) (fun t ht hW => ⟨⟨0, (), rfl, (Or.inr ⟨rfl, w139641⟩), cE.of ht hP hD [] (by decide) rfl⟩, hS.F ht⟩) hS.2.2 dX7_isDigit_17
    · have c139640 := i_nlt (a := 57) (b := x0.toInt) c139640 (by decide) rfl
      refine lv_iconst (v := 1) hx hb dX7_isDigit_12 (by decide) ?_
      refine lv_goto (tgt := 17) hx hb dX7_isDigit_13 (by decide) ?_
      have w139642 : 48 ≤ x0.toInt := by first | omega | assumption | rfl
      have w139643 : x0.toInt ≤ 57 := by first | omega | assumption | rfl
      exact W.zret (v := 1) hx hb hr (by decide) (fun t ht hW => ⟨⟨1, (), rfl, (Or.inl ⟨rfl, w139642, w139643⟩), cE.of ht hP hD [] (by decide) rfl⟩, hS.F ht⟩) hS.2.2 dX7_isDigit_17
def wo_k_M_fails2 : List Cond := [.fieldLink RX7 122 "ReplicaChainModel" "faultKind" "I", .fieldLink RX7 16 "ReplicaChainModel" "faultPlace" "I"]
def wq_k_M_fails2 : List Cond := .code yX7_fails cX7_fails 3 none :: (wo_k_M_fails2 ++ (wsX70 ++ []))
theorem gd_k_M_fails2 : Gd wq_k_M_fails2 := gd_c (gd_a (gd_o (by decide +kernel)) (gd_a gd_u gd_0))
abbrev wc_k_M_fails2 (cyB cyI cyJ cyZ cyO : ClassId) (hM : Nat) (md : Nat → Nat) (m_taped : Int32) (m_size : Int32) (m_faultKind : Int32) (m_faultPlace : Int32) (m_at : Int32) (m_end : Int32) (m_token : Int32) (m_number : Int32) (m_bank : Int32) (m_rb : Int32) (m_codes : Int32) (m_within : Int32) (m_piled : Int32) (m_unitsInRule : Int32) (m_askFrom : Int32) (m_askTo : Int32) (m_askWrite : Int32) (m_askUnder : Int32) (m_askBack : Int32) (m_thoughtSlow : Int32) (m_came : Int32) (m_acts : Int32) (m_undone : Int32) (m_laid : Int32) (m_seens : Int32) (m_time : Int32) (m_name : Int64) (x1 : Int32) (x2 : Int32) : va_W := [(hM, .inr (7, [.ref (md 0), .ref (md 1), .int m_taped, .int m_size, .int m_faultKind, .int m_faultPlace, .int m_at, .int m_end, .int m_token, .int m_number, .long m_name, .ref (md 11), .ref (md 12), .ref (md 13), .ref (md 14), .ref (md 15), .ref (md 16), .ref (md 17), .ref (md 18), .ref (md 19), .ref (md 20), .ref (md 21), .ref (md 22), .ref (md 23), .ref (md 24), .ref (md 25), .ref (md 26), .ref (md 27), .ref (md 28), .int m_bank, .int m_rb, .int m_codes, .int m_within, .int m_piled, .int m_unitsInRule, .int m_askFrom, .int m_askTo, .int m_askWrite, .int m_askUnder, .int m_askBack, .ref (md 40), .ref (md 41), .int m_thoughtSlow, .int m_came, .ref (md 44), .int m_acts, .int m_undone, .ref (md 47), .ref (md 48), .int m_laid, .ref (md 50), .ref (md 51), .ref (md 52), .ref (md 53), .ref (md 54), .int m_seens, .int m_time, .ref (md 57), .ref (md 58)]))]
set_option maxHeartbeats 4000000 in
set_option maxRecDepth 100000 in
theorem k_M_fails2 (l : Launch) (dC : Nat → ClassId) (dI : Nat → Nat → Nat) (cyB cyI cyJ cyZ cyO : ClassId) (hM : Nat) (md : Nat → Nat) (m_taped : Int32) (m_size : Int32) (m_faultKind : Int32) (m_faultPlace : Int32) (m_at : Int32) (m_end : Int32) (m_token : Int32) (m_number : Int32) (m_bank : Int32) (m_rb : Int32) (m_codes : Int32) (m_within : Int32) (m_piled : Int32) (m_unitsInRule : Int32) (m_askFrom : Int32) (m_askTo : Int32) (m_askWrite : Int32) (m_askUnder : Int32) (m_askBack : Int32) (m_thoughtSlow : Int32) (m_came : Int32) (m_acts : Int32) (m_undone : Int32) (m_laid : Int32) (m_seens : Int32) (m_time : Int32) (m_name : Int64) (x1 : Int32) (x2 : Int32) (sz : Nat) (l_m_taped : 0 ≤ m_taped.toInt) (u_m_taped : m_taped.toInt ≤ 1600) (l_m_size : 0 ≤ m_size.toInt) (u_m_size : m_size.toInt ≤ 1600) (l_m_bank : 0 ≤ m_bank.toInt) (u_m_bank : m_bank.toInt ≤ 1) (l_m_rb : 0 ≤ m_rb.toInt) (u_m_rb : m_rb.toInt ≤ 1) (l_m_acts : 0 ≤ m_acts.toInt) (u_m_acts : m_acts.toInt ≤ 40) (l_m_undone : 0 ≤ m_undone.toInt) (u_m_undone : m_undone.toInt ≤ 40) (l_m_laid : 0 ≤ m_laid.toInt) (u_m_laid : m_laid.toInt ≤ 6) (l_m_seens : 0 ≤ m_seens.toInt) (u_m_seens : m_seens.toInt ≤ 30) (l_m_time : 0 ≤ m_time.toInt) (u_m_time : m_time.toInt ≤ 100000) (l_x1 : 1 ≤ x1.toInt) (u_x1 : x1.toInt ≤ 4) : Met l yX7_fails wq_k_M_fails2 ({ frames := 0, cells := 0, slots := 0, locals := 0 }) (va_Pc [.ref hM, .int x1, .int x2] (cB (dC, dI) (kT cyB cyI cyJ cyZ cyO) (wc_k_M_fails2 cyB cyI cyJ cyZ cyO hM md m_taped m_size m_faultKind m_faultPlace m_at m_end m_token m_number m_bank m_rb m_codes m_within m_piled m_unitsInRule m_askFrom m_askTo m_askWrite m_askUnder m_askBack m_thoughtSlow m_came m_acts m_undone m_laid m_seens m_time m_name x1 x2) sz)) (va_Qv (fun (u : ST4) => (1 ≤ (u.2.1 0).toInt)) (fun (u : ST4) t => cE (dC, dI) (va_A (wc_k_M_fails2 cyB cyI cyJ cyZ cyO hM md m_taped m_size m_faultKind m_faultPlace m_at m_end m_token m_number m_bank m_rb m_codes m_within m_piled m_unitsInRule m_askFrom m_askTo m_askWrite m_askUnder m_askBack m_thoughtSlow m_came m_acts m_undone m_laid m_seens m_time m_name x1 x2) sz) ([(hM, .inr (7, [.ref (md 0), .ref (md 1), .int m_taped, .int m_size, .int (u.2.1 0), .int (u.2.1 1), .int m_at, .int m_end, .int m_token, .int m_number, .long m_name, .ref (md 11), .ref (md 12), .ref (md 13), .ref (md 14), .ref (md 15), .ref (md 16), .ref (md 17), .ref (md 18), .ref (md 19), .ref (md 20), .ref (md 21), .ref (md 22), .ref (md 23), .ref (md 24), .ref (md 25), .ref (md 26), .ref (md 27), .ref (md 28), .int m_bank, .int m_rb, .int m_codes, .int m_within, .int m_piled, .int m_unitsInRule, .int m_askFrom, .int m_askTo, .int m_askWrite, .int m_askUnder, .int m_askBack, .ref (md 40), .ref (md 41), .int m_thoughtSlow, .int m_came, .ref (md 44), .int m_acts, .int m_undone, .ref (md 47), .ref (md 48), .int m_laid, .ref (md 50), .ref (md 51), .ref (md 52), .ref (md 53), .ref (md 54), .int m_seens, .int m_time, .ref (md 57), .ref (md 58)]))]) t.heap) (va_A (wc_k_M_fails2 cyB cyI cyJ cyZ cyO hM md m_taped m_size m_faultKind m_faultPlace m_at m_end m_token m_number m_bank m_rb m_codes m_within m_piled m_unitsInRule m_askFrom m_askTo m_askWrite m_askUnder m_askBack m_thoughtSlow m_came m_acts m_undone m_laid m_seens m_time m_name x1 x2) sz)) 0 0 (va_A (wc_k_M_fails2 cyB cyI cyJ cyZ cyO hM md m_taped m_size m_faultKind m_faultPlace m_at m_end m_token m_number m_bank m_rb m_codes m_within m_piled m_unitsInRule m_askFrom m_askTo m_askWrite m_askUnder m_askBack m_thoughtSlow m_came m_acts m_undone m_laid m_seens m_time m_name x1 x2) sz) := by
  refine Met.ofW (cc := cX7_fails) (maxL := 3) (ret := none) (by decide) rfl ?_
  intro p e s m args below meth c s₁ B hml hv
  obtain ⟨rfl, hsz, hP, hKN, hD0⟩ := hv
  have hx := B.exec
  have hb := B.bytes
  have hr := B.returns
  have hts := atoms_spec (ws := wq_k_M_fails2) B.pre
  have hown : s.vm.findClass RX7 = some m.cls := findClass_of_methodNamed B.named
  have hlocks := B.notSynchronized
  have hK := hKN.1
  have hfix : CallFix p m c cX7_fails 3 s [.ref hM, .int x1, .int x2].toArray wq_k_M_fails2 RX7 := ⟨hx, hb, hml, hown, hts⟩
  have hi7 : ∀ w ∈ wsX70, w ∈ wq_k_M_fails2 := (sb_c sb_l)
  subst hsz
  have hD := hD0.self (sz := s.heap.size)
  generalize hAe : va_A (wc_k_M_fails2 cyB cyI cyJ cyZ cyO hM md m_taped m_size m_faultKind m_faultPlace m_at m_end m_token m_number m_bank m_rb m_codes m_within m_piled m_unitsInRule m_askFrom m_askTo m_askWrite m_askUnder m_askBack m_thoughtSlow m_came m_acts m_undone m_laid m_seens m_time m_name x1 x2) s.heap.size = A at hD ⊢
  have hA : ∀ q : Nat, s.heap.size ≤ q → A q := fun q h => by rw [← hAe]; exact Or.inr h
  have hS : va_S A s.heap s.heap [] := va_S.rf
  have hl := lv_entry ([.ref hM, .int x1, .int x2]) (n := 3) (Nat.le_of_ble_eq_true rfl)
  rw [lg_entry_eq]
  generalize (lg_sl ([.ref hM, .int x1, .int x2]) ++ List.replicate (3 - (lg_sl ([.ref hM, .int x1, .int x2])).length) Slot.unset).toArray = ls at hl ⊢
  have hl : lv_has ls 3 [(0, .ref hM), (1, .int x1), (2, .int x2)] := hl
  refine lv_aload_n hx hb dX7_fails_0 rfl (lv_at hl 0 rfl) ?_
  refine va_get (D := (dC, dI)) (ci := 7) (v := .int m_faultKind) (C := RX7) (T := TX7) (N := 59) hx hb hts hi7 hown hK hP 0 rfl rfl 4 (by decide) (hts _ (ow_m (k := 0) rfl)) (fun _ h9 => h9) rfl dX7_fails_1 ?_
  refine lv_if_le (tgt := 8) hx hb dX7_fails_4 (by decide) (fun c139646 => ?_) (fun c139646 => ?_)
  · have c139646 := i_le (a := m_faultKind.toInt) (b := 0) c139646 rfl (by decide)
    refine lv_aload_n hx hb dX7_fails_8 rfl (lv_at hl 0 rfl) ?_
    refine lv_iload_n hx hb dX7_fails_9 rfl (lv_at hl 1 rfl) ?_
    refine va_put (D := (dC, dI)) (ci := 7) (v := .int x1) (ty := .int) (C := RX7) (T := TX7) (N := 59) hx hb hts hi7 tyX7 tyX7_ok nmX7 hown hK hP hD hS 0 rfl rfl 4 (by decide) (hts _ (ow_m (k := 0) rfl)) (fun _ h9 => h9) rfl (by decide +kernel) rfl rfl (Nat.le_of_ble_eq_true rfl) dX7_fails_10 (fun H locs hP hD hS => ?_)
    have hP : va_P (dC, dI) vwCl [(hM, .inr (7, [.ref (md 0), .ref (md 1), .int m_taped, .int m_size, .int x1, .int m_faultPlace, .int m_at, .int m_end, .int m_token, .int m_number, .long m_name, .ref (md 11), .ref (md 12), .ref (md 13), .ref (md 14), .ref (md 15), .ref (md 16), .ref (md 17), .ref (md 18), .ref (md 19), .ref (md 20), .ref (md 21), .ref (md 22), .ref (md 23), .ref (md 24), .ref (md 25), .ref (md 26), .ref (md 27), .ref (md 28), .int m_bank, .int m_rb, .int m_codes, .int m_within, .int m_piled, .int m_unitsInRule, .int m_askFrom, .int m_askTo, .int m_askWrite, .int m_askUnder, .int m_askBack, .ref (md 40), .ref (md 41), .int m_thoughtSlow, .int m_came, .ref (md 44), .int m_acts, .int m_undone, .ref (md 47), .ref (md 48), .int m_laid, .ref (md 50), .ref (md 51), .ref (md 52), .ref (md 53), .ref (md 54), .int m_seens, .int m_time, .ref (md 57), .ref (md 58)]))] H := hP
    have hD : va_D A [(hM, .inr (7, [.ref (md 0), .ref (md 1), .int m_taped, .int m_size, .int x1, .int m_faultPlace, .int m_at, .int m_end, .int m_token, .int m_number, .long m_name, .ref (md 11), .ref (md 12), .ref (md 13), .ref (md 14), .ref (md 15), .ref (md 16), .ref (md 17), .ref (md 18), .ref (md 19), .ref (md 20), .ref (md 21), .ref (md 22), .ref (md 23), .ref (md 24), .ref (md 25), .ref (md 26), .ref (md 27), .ref (md 28), .int m_bank, .int m_rb, .int m_codes, .int m_within, .int m_piled, .int m_unitsInRule, .int m_askFrom, .int m_askTo, .int m_askWrite, .int m_askUnder, .int m_askBack, .ref (md 40), .ref (md 41), .int m_thoughtSlow, .int m_came, .ref (md 44), .int m_acts, .int m_undone, .ref (md 47), .ref (md 48), .int m_laid, .ref (md 50), .ref (md 51), .ref (md 52), .ref (md 53), .ref (md 54), .int m_seens, .int m_time, .ref (md 57), .ref (md 58)]))] := hD
    refine lv_aload_n hx hb dX7_fails_13 rfl (lv_at hl 0 rfl) ?_
    refine lv_iload_n hx hb dX7_fails_14 rfl (lv_at hl 2 rfl) ?_
    refine va_put (D := (dC, dI)) (ci := 7) (v := .int x2) (ty := .int) (C := RX7) (T := TX7) (N := 59) hx hb hts hi7 tyX7 tyX7_ok nmX7 hown hK hP hD hS 0 rfl rfl 5 (by decide) (hts _ (ow_m (k := 1) rfl)) (fun _ h9 => h9) rfl (by decide +kernel) rfl rfl (Nat.le_of_ble_eq_true rfl) dX7_fails_15 (fun H locs hP hD hS => ?_)
    have hP : va_P (dC, dI) vwCl [(hM, .inr (7, [.ref (md 0), .ref (md 1), .int m_taped, .int m_size, .int x1, .int x2, .int m_at, .int m_end, .int m_token, .int m_number, .long m_name, .ref (md 11), .ref (md 12), .ref (md 13), .ref (md 14), .ref (md 15), .ref (md 16), .ref (md 17), .ref (md 18), .ref (md 19), .ref (md 20), .ref (md 21), .ref (md 22), .ref (md 23), .ref (md 24), .ref (md 25), .ref (md 26), .ref (md 27), .ref (md 28), .int m_bank, .int m_rb, .int m_codes, .int m_within, .int m_piled, .int m_unitsInRule, .int m_askFrom, .int m_askTo, .int m_askWrite, .int m_askUnder, .int m_askBack, .ref (md 40), .ref (md 41), .int m_thoughtSlow, .int m_came, .ref (md 44), .int m_acts, .int m_undone, .ref (md 47), .ref (md 48), .int m_laid, .ref (md 50), .ref (md 51), .ref (md 52), .ref (md 53), .ref (md 54), .int m_seens, .int m_time, .ref (md 57), .ref (md 58)]))] H := hP
    have hD : va_D A [(hM, .inr (7, [.ref (md 0), .ref (md 1), .int m_taped, .int m_size, .int x1, .int x2, .int m_at, .int m_end, .int m_token, .int m_number, .long m_name, .ref (md 11), .ref (md 12), .ref (md 13), .ref (md 14), .ref (md 15), .ref (md 16), .ref (md 17), .ref (md 18), .ref (md 19), .ref (md 20), .ref (md 21), .ref (md 22), .ref (md 23), .ref (md 24), .ref (md 25), .ref (md 26), .ref (md 27), .ref (md 28), .int m_bank, .int m_rb, .int m_codes, .int m_within, .int m_piled, .int m_unitsInRule, .int m_askFrom, .int m_askTo, .int m_askWrite, .int m_askUnder, .int m_askBack, .ref (md 40), .ref (md 41), .int m_thoughtSlow, .int m_came, .ref (md 44), .int m_acts, .int m_undone, .ref (md 47), .ref (md 48), .int m_laid, .ref (md 50), .ref (md 51), .ref (md 52), .ref (md 53), .ref (md 54), .int m_seens, .int m_time, .ref (md 57), .ref (md 58)]))] := hD
    have w139647 : 1 ≤ x1.toInt := by first | omega | assumption | rfl | (intros; rfl)
    exact W.vret hx hb hr (fun t ht hW => ⟨⟨((fun _ => fun _ => 0), (fun k => match k with | 0 => x1 | _ => x2), (fun _ => 0), (fun _ => fun _ => 0)), rfl, w139647, cE.of ht hP hD [0] (by decide) rfl⟩, hS.F ht⟩) hS.2.2 dX7_fails_18
  · have c139646 := i_nle (a := m_faultKind.toInt) (b := 0) c139646 rfl (by decide)
    have w139648 : 1 ≤ m_faultKind.toInt := by first | omega | assumption | rfl | (intros; rfl)
    exact W.vret hx hb hr (fun t ht hW => ⟨⟨((fun _ => fun _ => 0), (fun k => match k with | 0 => m_faultKind | _ => m_faultPlace), (fun _ => 0), (fun _ => fun _ => 0)), rfl, w139648, cE.of ht hP hD [0] (by decide) rfl⟩, hS.F ht⟩) hS.2.2 dX7_fails_7
def wo_k_M_isSignHere : List Cond := [.fieldLink RX7 167 "ReplicaChainModel" "token" "I", .fieldLink RX7 160 "ReplicaChainModel" "at" "I", .methodLink RX7 163 yX7_sign, .instanceMethod yX7_sign, .selects RX7 yX7_sign yX7_sign, .initialized RX7]
def wq_k_M_isSignHere : List Cond := .code yX7_isSignHere cX7_isSignHere 2 (some .boolean) :: (wo_k_M_isSignHere ++ (wq_k_M_sign2 ++ (wsX70 ++ [])))
theorem gd_k_M_isSignHere : Gd wq_k_M_isSignHere := gd_c (gd_a (gd_o (by decide +kernel)) (gd_a gd_k_M_sign2 (gd_a gd_u gd_0)))
abbrev wc_k_M_isSignHere (cyB cyI cyJ cyZ cyO : ClassId) (hM : Nat) (md : Nat → Nat) (m_text : Nat → Int32) (m_taped : Int32) (m_size : Int32) (m_faultKind : Int32) (m_faultPlace : Int32) (m_at : Int32) (m_end : Int32) (m_token : Int32) (m_number : Int32) (m_bank : Int32) (m_rb : Int32) (m_codes : Int32) (m_within : Int32) (m_piled : Int32) (m_unitsInRule : Int32) (m_askFrom : Int32) (m_askTo : Int32) (m_askWrite : Int32) (m_askUnder : Int32) (m_askBack : Int32) (m_thoughtSlow : Int32) (m_came : Int32) (m_acts : Int32) (m_undone : Int32) (m_laid : Int32) (m_seens : Int32) (m_time : Int32) (m_name : Int64) (x1 : Int32) : va_W := [(hM, .inr (7, [.ref (md 0), .ref (md 1), .int m_taped, .int m_size, .int m_faultKind, .int m_faultPlace, .int m_at, .int m_end, .int m_token, .int m_number, .long m_name, .ref (md 11), .ref (md 12), .ref (md 13), .ref (md 14), .ref (md 15), .ref (md 16), .ref (md 17), .ref (md 18), .ref (md 19), .ref (md 20), .ref (md 21), .ref (md 22), .ref (md 23), .ref (md 24), .ref (md 25), .ref (md 26), .ref (md 27), .ref (md 28), .int m_bank, .int m_rb, .int m_codes, .int m_within, .int m_piled, .int m_unitsInRule, .int m_askFrom, .int m_askTo, .int m_askWrite, .int m_askUnder, .int m_askBack, .ref (md 40), .ref (md 41), .int m_thoughtSlow, .int m_came, .ref (md 44), .int m_acts, .int m_undone, .ref (md 47), .ref (md 48), .int m_laid, .ref (md 50), .ref (md 51), .ref (md 52), .ref (md 53), .ref (md 54), .int m_seens, .int m_time, .ref (md 57), .ref (md 58)])), (md 1, .inl (cyB, 1600, .inl m_text))]
set_option maxHeartbeats 4000000 in
set_option maxRecDepth 100000 in
theorem k_M_isSignHere (l : Launch) (dC : Nat → ClassId) (dI : Nat → Nat → Nat) (cyB cyI cyJ cyZ cyO : ClassId) (hM : Nat) (md : Nat → Nat) (m_text : Nat → Int32) (m_taped : Int32) (m_size : Int32) (m_faultKind : Int32) (m_faultPlace : Int32) (m_at : Int32) (m_end : Int32) (m_token : Int32) (m_number : Int32) (m_bank : Int32) (m_rb : Int32) (m_codes : Int32) (m_within : Int32) (m_piled : Int32) (m_unitsInRule : Int32) (m_askFrom : Int32) (m_askTo : Int32) (m_askWrite : Int32) (m_askUnder : Int32) (m_askBack : Int32) (m_thoughtSlow : Int32) (m_came : Int32) (m_acts : Int32) (m_undone : Int32) (m_laid : Int32) (m_seens : Int32) (m_time : Int32) (m_name : Int64) (x1 : Int32) (sz : Nat) (l_m_taped : 0 ≤ m_taped.toInt) (u_m_taped : m_taped.toInt ≤ 1600) (l_m_size : 0 ≤ m_size.toInt) (u_m_size : m_size.toInt ≤ 1600) (l_m_bank : 0 ≤ m_bank.toInt) (u_m_bank : m_bank.toInt ≤ 1) (l_m_rb : 0 ≤ m_rb.toInt) (u_m_rb : m_rb.toInt ≤ 1) (l_m_acts : 0 ≤ m_acts.toInt) (u_m_acts : m_acts.toInt ≤ 40) (l_m_undone : 0 ≤ m_undone.toInt) (u_m_undone : m_undone.toInt ≤ 40) (l_m_laid : 0 ≤ m_laid.toInt) (u_m_laid : m_laid.toInt ≤ 6) (l_m_seens : 0 ≤ m_seens.toInt) (u_m_seens : m_seens.toInt ≤ 30) (l_m_time : 0 ≤ m_time.toInt) (u_m_time : m_time.toInt ≤ 100000) (y1 : 0 ≤ m_at.toInt) (y2 : m_at.toInt ≤ m_end.toInt) (y3 : m_end.toInt ≤ m_size.toInt) (y4 : 0 ≤ m_token.toInt) (y5 : m_token.toInt ≤ 5) : Met l yX7_isSignHere wq_k_M_isSignHere ({ frames := 1, cells := 0, slots := 0, locals := 21 }) (va_Pc [.ref hM, .int x1] (cB (dC, dI) (kT cyB cyI cyJ cyZ cyO) (wc_k_M_isSignHere cyB cyI cyJ cyZ cyO hM md m_text m_taped m_size m_faultKind m_faultPlace m_at m_end m_token m_number m_bank m_rb m_codes m_within m_piled m_unitsInRule m_askFrom m_askTo m_askWrite m_askUnder m_askBack m_thoughtSlow m_came m_acts m_undone m_laid m_seens m_time m_name x1) sz)) (va_Qi (fun (r : Int32) (u : Unit) => (((r = 1 ∧ (m_token.toInt = 5) ∧ (sgn m_text m_size m_at = x1)) ∨ (r = 0)))) (fun (u : Unit) t => cE (dC, dI) (va_A (wc_k_M_isSignHere cyB cyI cyJ cyZ cyO hM md m_text m_taped m_size m_faultKind m_faultPlace m_at m_end m_token m_number m_bank m_rb m_codes m_within m_piled m_unitsInRule m_askFrom m_askTo m_askWrite m_askUnder m_askBack m_thoughtSlow m_came m_acts m_undone m_laid m_seens m_time m_name x1) sz) ([(hM, .inr (7, [.ref (md 0), .ref (md 1), .int m_taped, .int m_size, .int m_faultKind, .int m_faultPlace, .int m_at, .int m_end, .int m_token, .int m_number, .long m_name, .ref (md 11), .ref (md 12), .ref (md 13), .ref (md 14), .ref (md 15), .ref (md 16), .ref (md 17), .ref (md 18), .ref (md 19), .ref (md 20), .ref (md 21), .ref (md 22), .ref (md 23), .ref (md 24), .ref (md 25), .ref (md 26), .ref (md 27), .ref (md 28), .int m_bank, .int m_rb, .int m_codes, .int m_within, .int m_piled, .int m_unitsInRule, .int m_askFrom, .int m_askTo, .int m_askWrite, .int m_askUnder, .int m_askBack, .ref (md 40), .ref (md 41), .int m_thoughtSlow, .int m_came, .ref (md 44), .int m_acts, .int m_undone, .ref (md 47), .ref (md 48), .int m_laid, .ref (md 50), .ref (md 51), .ref (md 52), .ref (md 53), .ref (md 54), .int m_seens, .int m_time, .ref (md 57), .ref (md 58)])), (md 1, .inl (cyB, 1600, .inl m_text))]) t.heap) (va_A (wc_k_M_isSignHere cyB cyI cyJ cyZ cyO hM md m_text m_taped m_size m_faultKind m_faultPlace m_at m_end m_token m_number m_bank m_rb m_codes m_within m_piled m_unitsInRule m_askFrom m_askTo m_askWrite m_askUnder m_askBack m_thoughtSlow m_came m_acts m_undone m_laid m_seens m_time m_name x1) sz)) 0 0 (va_A (wc_k_M_isSignHere cyB cyI cyJ cyZ cyO hM md m_text m_taped m_size m_faultKind m_faultPlace m_at m_end m_token m_number m_bank m_rb m_codes m_within m_piled m_unitsInRule m_askFrom m_askTo m_askWrite m_askUnder m_askBack m_thoughtSlow m_came m_acts m_undone m_laid m_seens m_time m_name x1) sz) := by
  refine Met.ofW (cc := cX7_isSignHere) (maxL := 2) (ret := (some .boolean)) (by decide) rfl ?_
  intro p e s m args below meth c s₁ B hml hv
  obtain ⟨rfl, hsz, hP, hKN, hD0⟩ := hv
  have hx := B.exec
  have hb := B.bytes
  have hr := B.returns
  have hts := atoms_spec (ws := wq_k_M_isSignHere) B.pre
  have hown : s.vm.findClass RX7 = some m.cls := findClass_of_methodNamed B.named
  have hlocks := B.notSynchronized
  have hK := hKN.1
  have hfix : CallFix p m c cX7_isSignHere 2 s [.ref hM, .int x1].toArray wq_k_M_isSignHere RX7 := ⟨hx, hb, hml, hown, hts⟩
  have hi7 : ∀ w ∈ wsX70, w ∈ wq_k_M_isSignHere := (sb_c (sb_r sb_l))
  subst hsz
  have hD := hD0.self (sz := s.heap.size)
  generalize hAe : va_A (wc_k_M_isSignHere cyB cyI cyJ cyZ cyO hM md m_text m_taped m_size m_faultKind m_faultPlace m_at m_end m_token m_number m_bank m_rb m_codes m_within m_piled m_unitsInRule m_askFrom m_askTo m_askWrite m_askUnder m_askBack m_thoughtSlow m_came m_acts m_undone m_laid m_seens m_time m_name x1) s.heap.size = A at hD ⊢
  have hA : ∀ q : Nat, s.heap.size ≤ q → A q := fun q h => by rw [← hAe]; exact Or.inr h
  have hS : va_S A s.heap s.heap [] := va_S.rf
  have hl := lv_entry ([.ref hM, .int x1]) (n := 2) (Nat.le_of_ble_eq_true rfl)
  rw [lg_entry_eq]
  generalize (lg_sl ([.ref hM, .int x1]) ++ List.replicate (2 - (lg_sl ([.ref hM, .int x1])).length) Slot.unset).toArray = ls at hl ⊢
  have hl : lv_has ls 2 [(0, .ref hM), (1, .int x1)] := hl
  refine lv_aload_n hx hb dX7_isSignHere_0 rfl (lv_at hl 0 rfl) ?_
  refine va_get (D := (dC, dI)) (ci := 7) (v := .int m_token) (C := RX7) (T := TX7) (N := 59) hx hb hts hi7 hown hK hP 0 rfl rfl 8 (by decide) (hts _ (ow_m (k := 0) rfl)) (fun _ h9 => h9) rfl dX7_isSignHere_1 ?_
  refine lv_iconst (v := 5) hx hb dX7_isSignHere_4 (by decide) ?_
  refine lv_icmp_ne (tgt := 24) hx hb dX7_isSignHere_5 (by decide) (fun c139665 => ?_) (fun c139665 => ?_)
  · have c139665 := i_ne (a := m_token.toInt) (b := 5) c139665 rfl (by decide)
    refine lv_iconst (v := 0) hx hb dX7_isSignHere_24 (by decide) ?_
    exact W.zret (v := 0) hx hb hr (by decide) (fun t ht hW => ⟨⟨0, (), rfl, (Or.inr rfl), cE.of ht hP hD [0, 1] (by decide) rfl⟩, hS.F ht⟩) hS.2.2 dX7_isSignHere_25
  · have c139665 := i_eq (a := m_token.toInt) (b := 5) c139665 rfl (by decide)
    refine lv_aload_n hx hb dX7_isSignHere_8 rfl (lv_at hl 0 rfl) ?_
    refine lv_aload_n hx hb dX7_isSignHere_9 rfl (lv_at hl 0 rfl) ?_
    refine va_get (D := (dC, dI)) (ci := 7) (v := .int m_at) (C := RX7) (T := TX7) (N := 59) hx hb hts hi7 hown hK hP 0 rfl rfl 6 (by decide) (hts _ (ow_m (k := 1) rfl)) (fun _ h9 => h9) rfl dX7_isSignHere_10 ?_
    refine gf_i (wr := []) (va_runV (As := [.int m_at]) (rest := []) hfix (k_M_sign2 l dC dI cyB cyI cyJ cyZ cyO hM md m_text m_taped m_size m_faultKind m_faultPlace m_at m_end m_token m_number m_bank m_rb m_codes m_within m_piled m_unitsInRule m_askFrom m_askTo m_askWrite m_askUnder m_askBack m_thoughtSlow m_came m_acts m_undone m_laid m_seens m_time m_name m_at _ (by first | omega | assumption) (by first | omega | assumption) (by first | omega | assumption) (by first | omega | assumption) (by first | omega | assumption) (by first | omega | assumption) (by first | omega | assumption) (by first | omega | assumption) (by first | omega | assumption) (by first | omega | assumption) (by first | omega | assumption) (by first | omega | assumption) (by first | omega | assumption) (by first | omega | assumption) (by first | omega | assumption) (by first | omega | assumption) (by first | omega | assumption) (by first | omega | assumption) (by first | omega | assumption) (by first | omega | assumption)) (cwV 1 hts (gi_V (ow_m (k := 2) rfl) (ow_m (k := 3) rfl) (ow_m (k := 4) rfl) (ow_m (k := 5) rfl) (sb_c sb_l) gd_k_M_sign2) rfl rfl rfl (by decide +kernel) ⟨Nat.le_of_ble_eq_true rfl, Nat.le_of_ble_eq_true rfl⟩) (g_preV hKN hP hD [0, 1] rfl (by decide) 0 7 rfl rfl) rfl rfl hl.1 rfl (lv_room (Nat.le_of_ble_eq_true rfl)) dX7_isSignHere_13 ⟨Nat.le_of_ble_eq_true rfl, Nat.le_of_ble_eq_true rfl⟩) hP hD hS hA [0, 1] [] rfl rfl (by decide) (by decide) (fun r139666 u139667 H locs qu139667 hP hD hS => ?_)
    obtain ⟨b139668, b139669, b139670, b139671⟩ := qu139667
    have hP : va_P (dC, dI) vwCl [(hM, .inr (7, [.ref (md 0), .ref (md 1), .int m_taped, .int m_size, .int m_faultKind, .int m_faultPlace, .int m_at, .int m_end, .int m_token, .int m_number, .long m_name, .ref (md 11), .ref (md 12), .ref (md 13), .ref (md 14), .ref (md 15), .ref (md 16), .ref (md 17), .ref (md 18), .ref (md 19), .ref (md 20), .ref (md 21), .ref (md 22), .ref (md 23), .ref (md 24), .ref (md 25), .ref (md 26), .ref (md 27), .ref (md 28), .int m_bank, .int m_rb, .int m_codes, .int m_within, .int m_piled, .int m_unitsInRule, .int m_askFrom, .int m_askTo, .int m_askWrite, .int m_askUnder, .int m_askBack, .ref (md 40), .ref (md 41), .int m_thoughtSlow, .int m_came, .ref (md 44), .int m_acts, .int m_undone, .ref (md 47), .ref (md 48), .int m_laid, .ref (md 50), .ref (md 51), .ref (md 52), .ref (md 53), .ref (md 54), .int m_seens, .int m_time, .ref (md 57), .ref (md 58)])), (md 1, .inl (cyB, 1600, .inl m_text))] H := hP
    have hD : va_D A [(hM, .inr (7, [.ref (md 0), .ref (md 1), .int m_taped, .int m_size, .int m_faultKind, .int m_faultPlace, .int m_at, .int m_end, .int m_token, .int m_number, .long m_name, .ref (md 11), .ref (md 12), .ref (md 13), .ref (md 14), .ref (md 15), .ref (md 16), .ref (md 17), .ref (md 18), .ref (md 19), .ref (md 20), .ref (md 21), .ref (md 22), .ref (md 23), .ref (md 24), .ref (md 25), .ref (md 26), .ref (md 27), .ref (md 28), .int m_bank, .int m_rb, .int m_codes, .int m_within, .int m_piled, .int m_unitsInRule, .int m_askFrom, .int m_askTo, .int m_askWrite, .int m_askUnder, .int m_askBack, .ref (md 40), .ref (md 41), .int m_thoughtSlow, .int m_came, .ref (md 44), .int m_acts, .int m_undone, .ref (md 47), .ref (md 48), .int m_laid, .ref (md 50), .ref (md 51), .ref (md 52), .ref (md 53), .ref (md 54), .int m_seens, .int m_time, .ref (md 57), .ref (md 58)])), (md 1, .inl (cyB, 1600, .inl m_text))] := hD
    refine lv_iload_n hx hb dX7_isSignHere_16 rfl (lv_at hl 1 rfl) ?_
    refine lv_icmp_ne (tgt := 24) hx hb dX7_isSignHere_17 (by decide) (fun c139672 => ?_) (fun c139672 => ?_)
    · have c139672 := i_ne (a := r139666.toInt) (b := x1.toInt) c139672 rfl rfl
      refine lv_iconst (v := 0) hx hb dX7_isSignHere_24 (by decide) ?_
      exact W.zret (v := 0) hx hb hr (by decide) (fun t ht hW => ⟨⟨0, (), rfl, (Or.inr rfl), cE.of ht hP hD [0, 1] (by decide) rfl⟩, hS.F ht⟩) hS.2.2 dX7_isSignHere_25
    · have c139672 := i_eq (a := r139666.toInt) (b := x1.toInt) c139672 rfl rfl
      refine lv_iconst (v := 1) hx hb dX7_isSignHere_20 (by decide) ?_
      refine lv_goto (tgt := 25) hx hb dX7_isSignHere_21 (by decide) ?_
      have hsg : sgn m_text m_size m_at = x1 := by rw [← b139670]; exact Int32.toInt_inj.mp (by omega)
      have w139673 : m_token.toInt = 5 := by first | omega | assumption | rfl
      have w139674 : sgn m_text m_size m_at = x1 := by first | omega | assumption | rfl
      exact W.zret (v := 1) hx hb hr (by decide) (fun t ht hW => ⟨⟨1, (), rfl, (Or.inl ⟨rfl, w139673, w139674⟩), cE.of ht hP hD [0, 1] (by decide) rfl⟩, hS.F ht⟩) hS.2.2 dX7_isSignHere_25
def wo_k_M_isWord : List Cond := [.fieldLink RX7 167 "ReplicaChainModel" "token" "I", .fieldLink RX7 174 "ReplicaChainModel" "name" "J"]
def wq_k_M_isWord : List Cond := .code yX7_isWord cX7_isWord 3 (some .boolean) :: (wo_k_M_isWord ++ (wsX70 ++ []))
theorem gd_k_M_isWord : Gd wq_k_M_isWord := gd_c (gd_a (gd_o (by decide +kernel)) (gd_a gd_u gd_0))
abbrev wc_k_M_isWord (cyB cyI cyJ cyZ cyO : ClassId) (hM : Nat) (md : Nat → Nat) (m_taped : Int32) (m_size : Int32) (m_faultKind : Int32) (m_faultPlace : Int32) (m_at : Int32) (m_end : Int32) (m_token : Int32) (m_number : Int32) (m_bank : Int32) (m_rb : Int32) (m_codes : Int32) (m_within : Int32) (m_piled : Int32) (m_unitsInRule : Int32) (m_askFrom : Int32) (m_askTo : Int32) (m_askWrite : Int32) (m_askUnder : Int32) (m_askBack : Int32) (m_thoughtSlow : Int32) (m_came : Int32) (m_acts : Int32) (m_undone : Int32) (m_laid : Int32) (m_seens : Int32) (m_time : Int32) (m_name : Int64) (x1 : Int64) : va_W := [(hM, .inr (7, [.ref (md 0), .ref (md 1), .int m_taped, .int m_size, .int m_faultKind, .int m_faultPlace, .int m_at, .int m_end, .int m_token, .int m_number, .long m_name, .ref (md 11), .ref (md 12), .ref (md 13), .ref (md 14), .ref (md 15), .ref (md 16), .ref (md 17), .ref (md 18), .ref (md 19), .ref (md 20), .ref (md 21), .ref (md 22), .ref (md 23), .ref (md 24), .ref (md 25), .ref (md 26), .ref (md 27), .ref (md 28), .int m_bank, .int m_rb, .int m_codes, .int m_within, .int m_piled, .int m_unitsInRule, .int m_askFrom, .int m_askTo, .int m_askWrite, .int m_askUnder, .int m_askBack, .ref (md 40), .ref (md 41), .int m_thoughtSlow, .int m_came, .ref (md 44), .int m_acts, .int m_undone, .ref (md 47), .ref (md 48), .int m_laid, .ref (md 50), .ref (md 51), .ref (md 52), .ref (md 53), .ref (md 54), .int m_seens, .int m_time, .ref (md 57), .ref (md 58)]))]
set_option maxHeartbeats 4000000 in
set_option maxRecDepth 100000 in
theorem k_M_isWord (l : Launch) (dC : Nat → ClassId) (dI : Nat → Nat → Nat) (cyB cyI cyJ cyZ cyO : ClassId) (hM : Nat) (md : Nat → Nat) (m_taped : Int32) (m_size : Int32) (m_faultKind : Int32) (m_faultPlace : Int32) (m_at : Int32) (m_end : Int32) (m_token : Int32) (m_number : Int32) (m_bank : Int32) (m_rb : Int32) (m_codes : Int32) (m_within : Int32) (m_piled : Int32) (m_unitsInRule : Int32) (m_askFrom : Int32) (m_askTo : Int32) (m_askWrite : Int32) (m_askUnder : Int32) (m_askBack : Int32) (m_thoughtSlow : Int32) (m_came : Int32) (m_acts : Int32) (m_undone : Int32) (m_laid : Int32) (m_seens : Int32) (m_time : Int32) (m_name : Int64) (x1 : Int64) (sz : Nat) (l_m_taped : 0 ≤ m_taped.toInt) (u_m_taped : m_taped.toInt ≤ 1600) (l_m_size : 0 ≤ m_size.toInt) (u_m_size : m_size.toInt ≤ 1600) (l_m_bank : 0 ≤ m_bank.toInt) (u_m_bank : m_bank.toInt ≤ 1) (l_m_rb : 0 ≤ m_rb.toInt) (u_m_rb : m_rb.toInt ≤ 1) (l_m_acts : 0 ≤ m_acts.toInt) (u_m_acts : m_acts.toInt ≤ 40) (l_m_undone : 0 ≤ m_undone.toInt) (u_m_undone : m_undone.toInt ≤ 40) (l_m_laid : 0 ≤ m_laid.toInt) (u_m_laid : m_laid.toInt ≤ 6) (l_m_seens : 0 ≤ m_seens.toInt) (u_m_seens : m_seens.toInt ≤ 30) (l_m_time : 0 ≤ m_time.toInt) (u_m_time : m_time.toInt ≤ 100000) : Met l yX7_isWord wq_k_M_isWord ({ frames := 0, cells := 0, slots := 0, locals := 0 }) (va_Pc [.ref hM, .long x1] (cB (dC, dI) (kT cyB cyI cyJ cyZ cyO) (wc_k_M_isWord cyB cyI cyJ cyZ cyO hM md m_taped m_size m_faultKind m_faultPlace m_at m_end m_token m_number m_bank m_rb m_codes m_within m_piled m_unitsInRule m_askFrom m_askTo m_askWrite m_askUnder m_askBack m_thoughtSlow m_came m_acts m_undone m_laid m_seens m_time m_name x1) sz)) (va_Qi (fun (r : Int32) (u : Unit) => (((r = 1 ∧ (m_token.toInt = 3) ∧ (m_name = x1)) ∨ (r = 0 ∧ (¬ (m_token.toInt = 3 ∧ m_name = x1)))))) (fun (u : Unit) t => cE (dC, dI) (va_A (wc_k_M_isWord cyB cyI cyJ cyZ cyO hM md m_taped m_size m_faultKind m_faultPlace m_at m_end m_token m_number m_bank m_rb m_codes m_within m_piled m_unitsInRule m_askFrom m_askTo m_askWrite m_askUnder m_askBack m_thoughtSlow m_came m_acts m_undone m_laid m_seens m_time m_name x1) sz) ([(hM, .inr (7, [.ref (md 0), .ref (md 1), .int m_taped, .int m_size, .int m_faultKind, .int m_faultPlace, .int m_at, .int m_end, .int m_token, .int m_number, .long m_name, .ref (md 11), .ref (md 12), .ref (md 13), .ref (md 14), .ref (md 15), .ref (md 16), .ref (md 17), .ref (md 18), .ref (md 19), .ref (md 20), .ref (md 21), .ref (md 22), .ref (md 23), .ref (md 24), .ref (md 25), .ref (md 26), .ref (md 27), .ref (md 28), .int m_bank, .int m_rb, .int m_codes, .int m_within, .int m_piled, .int m_unitsInRule, .int m_askFrom, .int m_askTo, .int m_askWrite, .int m_askUnder, .int m_askBack, .ref (md 40), .ref (md 41), .int m_thoughtSlow, .int m_came, .ref (md 44), .int m_acts, .int m_undone, .ref (md 47), .ref (md 48), .int m_laid, .ref (md 50), .ref (md 51), .ref (md 52), .ref (md 53), .ref (md 54), .int m_seens, .int m_time, .ref (md 57), .ref (md 58)]))]) t.heap) (va_A (wc_k_M_isWord cyB cyI cyJ cyZ cyO hM md m_taped m_size m_faultKind m_faultPlace m_at m_end m_token m_number m_bank m_rb m_codes m_within m_piled m_unitsInRule m_askFrom m_askTo m_askWrite m_askUnder m_askBack m_thoughtSlow m_came m_acts m_undone m_laid m_seens m_time m_name x1) sz)) 0 0 (va_A (wc_k_M_isWord cyB cyI cyJ cyZ cyO hM md m_taped m_size m_faultKind m_faultPlace m_at m_end m_token m_number m_bank m_rb m_codes m_within m_piled m_unitsInRule m_askFrom m_askTo m_askWrite m_askUnder m_askBack m_thoughtSlow m_came m_acts m_undone m_laid m_seens m_time m_name x1) sz) := by
  refine Met.ofW (cc := cX7_isWord) (maxL := 3) (ret := (some .boolean)) (by decide) rfl ?_
  intro p e s m args below meth c s₁ B hml hv
  obtain ⟨rfl, hsz, hP, hKN, hD0⟩ := hv
  have hx := B.exec
  have hb := B.bytes
  have hr := B.returns
  have hts := atoms_spec (ws := wq_k_M_isWord) B.pre
  have hown : s.vm.findClass RX7 = some m.cls := findClass_of_methodNamed B.named
  have hlocks := B.notSynchronized
  have hK := hKN.1
  have hfix : CallFix p m c cX7_isWord 3 s [.ref hM, .long x1].toArray wq_k_M_isWord RX7 := ⟨hx, hb, hml, hown, hts⟩
  have hi7 : ∀ w ∈ wsX70, w ∈ wq_k_M_isWord := (sb_c sb_l)
  subst hsz
  have hD := hD0.self (sz := s.heap.size)
  generalize hAe : va_A (wc_k_M_isWord cyB cyI cyJ cyZ cyO hM md m_taped m_size m_faultKind m_faultPlace m_at m_end m_token m_number m_bank m_rb m_codes m_within m_piled m_unitsInRule m_askFrom m_askTo m_askWrite m_askUnder m_askBack m_thoughtSlow m_came m_acts m_undone m_laid m_seens m_time m_name x1) s.heap.size = A at hD ⊢
  have hA : ∀ q : Nat, s.heap.size ≤ q → A q := fun q h => by rw [← hAe]; exact Or.inr h
  have hS : va_S A s.heap s.heap [] := va_S.rf
  have hl := lv_entry ([.ref hM, .long x1]) (n := 3) (Nat.le_of_ble_eq_true rfl)
  rw [lg_entry_eq]
  generalize (lg_sl ([.ref hM, .long x1]) ++ List.replicate (3 - (lg_sl ([.ref hM, .long x1])).length) Slot.unset).toArray = ls at hl ⊢
  have hl : lv_has ls 3 [(0, .ref hM), (1, .long x1)] := hl
  refine lv_aload_n hx hb dX7_isWord_0 rfl (lv_at hl 0 rfl) ?_
  refine va_get (D := (dC, dI)) (ci := 7) (v := .int m_token) (C := RX7) (T := TX7) (N := 59) hx hb hts hi7 hown hK hP 0 rfl rfl 8 (by decide) (hts _ (ow_m (k := 0) rfl)) (fun _ h9 => h9) rfl dX7_isWord_1 ?_
  refine lv_iconst (v := 3) hx hb dX7_isWord_4 (by decide) ?_
  refine lv_icmp_ne (tgt := 21) hx hb dX7_isWord_5 (by decide) (fun c139681 => ?_) (fun c139681 => ?_)
  · have c139681 := i_ne (a := m_token.toInt) (b := 3) c139681 rfl (by decide)
    refine lv_iconst (v := 0) hx hb dX7_isWord_21 (by decide) ?_
    have hnn : ¬ (m_token.toInt = 3 ∧ m_name = x1) := fun q => by omega
    have w139682 : ¬ (m_token.toInt = 3 ∧ m_name = x1) := by first | omega | assumption | rfl
    exact W.zret (v := 0) hx hb hr (by decide) (fun t ht hW => ⟨⟨0, (), rfl, (Or.inr ⟨rfl, w139682⟩), cE.of ht hP hD [0] (by decide) rfl⟩, hS.F ht⟩) hS.2.2 dX7_isWord_22
  · have c139681 := i_eq (a := m_token.toInt) (b := 3) c139681 rfl (by decide)
    refine lv_aload_n hx hb dX7_isWord_8 rfl (lv_at hl 0 rfl) ?_
    refine va_get (D := (dC, dI)) (ci := 7) (v := .long m_name) (C := RX7) (T := TX7) (N := 59) hx hb hts hi7 hown hK hP 0 rfl rfl 10 (by decide) (hts _ (ow_m (k := 1) rfl)) (fun _ h9 => h9) rfl dX7_isWord_9 ?_
    refine lv_lload_n hx hb dX7_isWord_12 rfl (lv_at hl 1 rfl) ?_
    refine W.lcmp hx hb dX7_isWord_13 ?_
    refine lv_topi (fun z139683 ez139683 => ?_)
    refine lv_if_ne (tgt := 21) hx hb dX7_isWord_14 (by decide) (fun c139684 => ?_) (fun c139684 => ?_)
    · have c139684 := i_ne (a := z139683.toInt) (b := 0) c139684 rfl (by decide)
      refine lv_iconst (v := 0) hx hb dX7_isWord_21 (by decide) ?_
      have hnn : ¬ (m_token.toInt = 3 ∧ m_name = x1) := fun q => lc_ne ez139683 (by omega) q.2
      have w139685 : ¬ (m_token.toInt = 3 ∧ m_name = x1) := by first | omega | assumption | rfl
      exact W.zret (v := 0) hx hb hr (by decide) (fun t ht hW => ⟨⟨0, (), rfl, (Or.inr ⟨rfl, w139685⟩), cE.of ht hP hD [0] (by decide) rfl⟩, hS.F ht⟩) hS.2.2 dX7_isWord_22
    · have c139684 := i_eq (a := z139683.toInt) (b := 0) c139684 rfl (by decide)
      refine lv_iconst (v := 1) hx hb dX7_isWord_17 (by decide) ?_
      refine lv_goto (tgt := 22) hx hb dX7_isWord_18 (by decide) ?_
      have hnm : m_name = x1 := lc_eq ez139683 (by omega)
      have w139686 : m_token.toInt = 3 := by first | omega | assumption | rfl
      have w139687 : m_name = x1 := by first | omega | assumption | rfl
      exact W.zret (v := 1) hx hb hr (by decide) (fun t ht hW => ⟨⟨1, (), rfl, (Or.inl ⟨rfl, w139686, w139687⟩), cE.of ht hP hD [0] (by decide) rfl⟩, hS.F ht⟩) hS.2.2 dX7_isWord_22
def wo_k_M_misplaced : List Cond := [.fieldLink RX7 167 "ReplicaChainModel" "token" "I", .fieldLink RX7 160 "ReplicaChainModel" "at" "I", .methodLink RX7 191 yX7_fails, .instanceMethod yX7_fails, .selects RX7 yX7_fails yX7_fails, .initialized RX7]
def wq_k_M_misplaced : List Cond := .code yX7_misplaced cX7_misplaced 1 none :: (wo_k_M_misplaced ++ (wq_k_M_fails2 ++ (wsX70 ++ [])))
theorem gd_k_M_misplaced : Gd wq_k_M_misplaced := gd_c (gd_a (gd_o (by decide +kernel)) (gd_a gd_k_M_fails2 (gd_a gd_u gd_0)))
abbrev wc_k_M_misplaced (cyB cyI cyJ cyZ cyO : ClassId) (hM : Nat) (md : Nat → Nat) (m_taped : Int32) (m_size : Int32) (m_faultKind : Int32) (m_faultPlace : Int32) (m_at : Int32) (m_end : Int32) (m_token : Int32) (m_number : Int32) (m_bank : Int32) (m_rb : Int32) (m_codes : Int32) (m_within : Int32) (m_piled : Int32) (m_unitsInRule : Int32) (m_askFrom : Int32) (m_askTo : Int32) (m_askWrite : Int32) (m_askUnder : Int32) (m_askBack : Int32) (m_thoughtSlow : Int32) (m_came : Int32) (m_acts : Int32) (m_undone : Int32) (m_laid : Int32) (m_seens : Int32) (m_time : Int32) (m_name : Int64) : va_W := [(hM, .inr (7, [.ref (md 0), .ref (md 1), .int m_taped, .int m_size, .int m_faultKind, .int m_faultPlace, .int m_at, .int m_end, .int m_token, .int m_number, .long m_name, .ref (md 11), .ref (md 12), .ref (md 13), .ref (md 14), .ref (md 15), .ref (md 16), .ref (md 17), .ref (md 18), .ref (md 19), .ref (md 20), .ref (md 21), .ref (md 22), .ref (md 23), .ref (md 24), .ref (md 25), .ref (md 26), .ref (md 27), .ref (md 28), .int m_bank, .int m_rb, .int m_codes, .int m_within, .int m_piled, .int m_unitsInRule, .int m_askFrom, .int m_askTo, .int m_askWrite, .int m_askUnder, .int m_askBack, .ref (md 40), .ref (md 41), .int m_thoughtSlow, .int m_came, .ref (md 44), .int m_acts, .int m_undone, .ref (md 47), .ref (md 48), .int m_laid, .ref (md 50), .ref (md 51), .ref (md 52), .ref (md 53), .ref (md 54), .int m_seens, .int m_time, .ref (md 57), .ref (md 58)]))]
set_option maxHeartbeats 4000000 in
set_option maxRecDepth 100000 in
theorem k_M_misplaced (l : Launch) (dC : Nat → ClassId) (dI : Nat → Nat → Nat) (cyB cyI cyJ cyZ cyO : ClassId) (hM : Nat) (md : Nat → Nat) (m_taped : Int32) (m_size : Int32) (m_faultKind : Int32) (m_faultPlace : Int32) (m_at : Int32) (m_end : Int32) (m_token : Int32) (m_number : Int32) (m_bank : Int32) (m_rb : Int32) (m_codes : Int32) (m_within : Int32) (m_piled : Int32) (m_unitsInRule : Int32) (m_askFrom : Int32) (m_askTo : Int32) (m_askWrite : Int32) (m_askUnder : Int32) (m_askBack : Int32) (m_thoughtSlow : Int32) (m_came : Int32) (m_acts : Int32) (m_undone : Int32) (m_laid : Int32) (m_seens : Int32) (m_time : Int32) (m_name : Int64) (sz : Nat) (l_m_taped : 0 ≤ m_taped.toInt) (u_m_taped : m_taped.toInt ≤ 1600) (l_m_size : 0 ≤ m_size.toInt) (u_m_size : m_size.toInt ≤ 1600) (l_m_bank : 0 ≤ m_bank.toInt) (u_m_bank : m_bank.toInt ≤ 1) (l_m_rb : 0 ≤ m_rb.toInt) (u_m_rb : m_rb.toInt ≤ 1) (l_m_acts : 0 ≤ m_acts.toInt) (u_m_acts : m_acts.toInt ≤ 40) (l_m_undone : 0 ≤ m_undone.toInt) (u_m_undone : m_undone.toInt ≤ 40) (l_m_laid : 0 ≤ m_laid.toInt) (u_m_laid : m_laid.toInt ≤ 6) (l_m_seens : 0 ≤ m_seens.toInt) (u_m_seens : m_seens.toInt ≤ 30) (l_m_time : 0 ≤ m_time.toInt) (u_m_time : m_time.toInt ≤ 100000) : Met l yX7_misplaced wq_k_M_misplaced ({ frames := 1, cells := 0, slots := 0, locals := 22 }) (va_Pc [.ref hM] (cB (dC, dI) (kT cyB cyI cyJ cyZ cyO) (wc_k_M_misplaced cyB cyI cyJ cyZ cyO hM md m_taped m_size m_faultKind m_faultPlace m_at m_end m_token m_number m_bank m_rb m_codes m_within m_piled m_unitsInRule m_askFrom m_askTo m_askWrite m_askUnder m_askBack m_thoughtSlow m_came m_acts m_undone m_laid m_seens m_time m_name) sz)) (va_Qv (fun (u : ST4) => (1 ≤ (u.2.1 0).toInt)) (fun (u : ST4) t => cE (dC, dI) (va_A (wc_k_M_misplaced cyB cyI cyJ cyZ cyO hM md m_taped m_size m_faultKind m_faultPlace m_at m_end m_token m_number m_bank m_rb m_codes m_within m_piled m_unitsInRule m_askFrom m_askTo m_askWrite m_askUnder m_askBack m_thoughtSlow m_came m_acts m_undone m_laid m_seens m_time m_name) sz) ([(hM, .inr (7, [.ref (md 0), .ref (md 1), .int m_taped, .int m_size, .int (u.2.1 0), .int (u.2.1 1), .int m_at, .int m_end, .int m_token, .int m_number, .long m_name, .ref (md 11), .ref (md 12), .ref (md 13), .ref (md 14), .ref (md 15), .ref (md 16), .ref (md 17), .ref (md 18), .ref (md 19), .ref (md 20), .ref (md 21), .ref (md 22), .ref (md 23), .ref (md 24), .ref (md 25), .ref (md 26), .ref (md 27), .ref (md 28), .int m_bank, .int m_rb, .int m_codes, .int m_within, .int m_piled, .int m_unitsInRule, .int m_askFrom, .int m_askTo, .int m_askWrite, .int m_askUnder, .int m_askBack, .ref (md 40), .ref (md 41), .int m_thoughtSlow, .int m_came, .ref (md 44), .int m_acts, .int m_undone, .ref (md 47), .ref (md 48), .int m_laid, .ref (md 50), .ref (md 51), .ref (md 52), .ref (md 53), .ref (md 54), .int m_seens, .int m_time, .ref (md 57), .ref (md 58)]))]) t.heap) (va_A (wc_k_M_misplaced cyB cyI cyJ cyZ cyO hM md m_taped m_size m_faultKind m_faultPlace m_at m_end m_token m_number m_bank m_rb m_codes m_within m_piled m_unitsInRule m_askFrom m_askTo m_askWrite m_askUnder m_askBack m_thoughtSlow m_came m_acts m_undone m_laid m_seens m_time m_name) sz)) 0 0 (va_A (wc_k_M_misplaced cyB cyI cyJ cyZ cyO hM md m_taped m_size m_faultKind m_faultPlace m_at m_end m_token m_number m_bank m_rb m_codes m_within m_piled m_unitsInRule m_askFrom m_askTo m_askWrite m_askUnder m_askBack m_thoughtSlow m_came m_acts m_undone m_laid m_seens m_time m_name) sz) := by
  refine Met.ofW (cc := cX7_misplaced) (maxL := 1) (ret := none) (by decide) rfl ?_
  intro p e s m args below meth c s₁ B hml hv
  obtain ⟨rfl, hsz, hP, hKN, hD0⟩ := hv
  have hx := B.exec
  have hb := B.bytes
  have hr := B.returns
  have hts := atoms_spec (ws := wq_k_M_misplaced) B.pre
  have hown : s.vm.findClass RX7 = some m.cls := findClass_of_methodNamed B.named
  have hlocks := B.notSynchronized
  have hK := hKN.1
  have hfix : CallFix p m c cX7_misplaced 1 s [.ref hM].toArray wq_k_M_misplaced RX7 := ⟨hx, hb, hml, hown, hts⟩
  have hi7 : ∀ w ∈ wsX70, w ∈ wq_k_M_misplaced := (sb_c (sb_r sb_l))
  subst hsz
  have hD := hD0.self (sz := s.heap.size)
  generalize hAe : va_A (wc_k_M_misplaced cyB cyI cyJ cyZ cyO hM md m_taped m_size m_faultKind m_faultPlace m_at m_end m_token m_number m_bank m_rb m_codes m_within m_piled m_unitsInRule m_askFrom m_askTo m_askWrite m_askUnder m_askBack m_thoughtSlow m_came m_acts m_undone m_laid m_seens m_time m_name) s.heap.size = A at hD ⊢
  have hA : ∀ q : Nat, s.heap.size ≤ q → A q := fun q h => by rw [← hAe]; exact Or.inr h
  have hS : va_S A s.heap s.heap [] := va_S.rf
  have hl := lv_entry ([.ref hM]) (n := 1) (Nat.le_of_ble_eq_true rfl)
  rw [lg_entry_eq]
  generalize (lg_sl ([.ref hM]) ++ List.replicate (1 - (lg_sl ([.ref hM])).length) Slot.unset).toArray = ls at hl ⊢
  have hl : lv_has ls 1 [(0, .ref hM)] := hl
  have ck1 : (1 : Int32).toInt = 1 := by decide
  have ck2 : (2 : Int32).toInt = 2 := by decide
  refine lv_aload_n hx hb dX7_misplaced_0 rfl (lv_at hl 0 rfl) ?_
  refine lv_aload_n hx hb dX7_misplaced_1 rfl (lv_at hl 0 rfl) ?_
  refine va_get (D := (dC, dI)) (ci := 7) (v := .int m_token) (C := RX7) (T := TX7) (N := 59) hx hb hts hi7 hown hK hP 0 rfl rfl 8 (by decide) (hts _ (ow_m (k := 0) rfl)) (fun _ h9 => h9) rfl dX7_misplaced_2 ?_
  refine lv_iconst (v := 1) hx hb dX7_misplaced_5 (by decide) ?_
  refine lv_icmp_ne (tgt := 13) hx hb dX7_misplaced_6 (by decide) (fun c139702 => ?_) (fun c139702 => ?_)
  · have c139702 := i_ne (a := m_token.toInt) (b := 1) c139702 rfl (by decide)
    refine lv_iconst (v := 2) hx hb dX7_misplaced_13 (by decide) ?_
    refine lv_aload_n hx hb dX7_misplaced_14 rfl (lv_at hl 0 rfl) ?_
    refine va_get (D := (dC, dI)) (ci := 7) (v := .int m_at) (C := RX7) (T := TX7) (N := 59) hx hb hts hi7 hown hK hP 0 rfl rfl 6 (by decide) (hts _ (ow_m (k := 1) rfl)) (fun _ h9 => h9) rfl dX7_misplaced_15 ?_
    refine gf_v (wr := []) (va_runV (As := [.int 2, .int m_at]) (rest := []) hfix (k_M_fails2 l dC dI cyB cyI cyJ cyZ cyO hM md m_taped m_size m_faultKind m_faultPlace m_at m_end m_token m_number m_bank m_rb m_codes m_within m_piled m_unitsInRule m_askFrom m_askTo m_askWrite m_askUnder m_askBack m_thoughtSlow m_came m_acts m_undone m_laid m_seens m_time m_name (2 : Int32) m_at _ (by first | omega | assumption) (by first | omega | assumption) (by first | omega | assumption) (by first | omega | assumption) (by first | omega | assumption) (by first | omega | assumption) (by first | omega | assumption) (by first | omega | assumption) (by first | omega | assumption) (by first | omega | assumption) (by first | omega | assumption) (by first | omega | assumption) (by first | omega | assumption) (by first | omega | assumption) (by first | omega | assumption) (by first | omega | assumption) (by first | omega | assumption) (by first | omega | assumption) (by first | omega | assumption) (by first | omega | assumption)) (cwV 2 hts (gi_V (ow_m (k := 2) rfl) (ow_m (k := 3) rfl) (ow_m (k := 4) rfl) (ow_m (k := 5) rfl) (sb_c sb_l) gd_k_M_fails2) rfl rfl rfl (by decide +kernel) ⟨Nat.le_of_ble_eq_true rfl, Nat.le_of_ble_eq_true rfl⟩) (g_preV hKN hP hD [0] rfl (by decide) 0 7 rfl rfl) rfl rfl hl.1 rfl (lv_room (Nat.le_of_ble_eq_true rfl)) dX7_misplaced_18 ⟨Nat.le_of_ble_eq_true rfl, Nat.le_of_ble_eq_true rfl⟩) hP hD hS hA [0] [] rfl rfl (by decide) (by decide) (fun u139704 H locs qu139704 hP hD hS => ?_)
    have b139705 := qu139704
    have hP : va_P (dC, dI) vwCl [(hM, .inr (7, [.ref (md 0), .ref (md 1), .int m_taped, .int m_size, .int (u139704.2.1 0), .int (u139704.2.1 1), .int m_at, .int m_end, .int m_token, .int m_number, .long m_name, .ref (md 11), .ref (md 12), .ref (md 13), .ref (md 14), .ref (md 15), .ref (md 16), .ref (md 17), .ref (md 18), .ref (md 19), .ref (md 20), .ref (md 21), .ref (md 22), .ref (md 23), .ref (md 24), .ref (md 25), .ref (md 26), .ref (md 27), .ref (md 28), .int m_bank, .int m_rb, .int m_codes, .int m_within, .int m_piled, .int m_unitsInRule, .int m_askFrom, .int m_askTo, .int m_askWrite, .int m_askUnder, .int m_askBack, .ref (md 40), .ref (md 41), .int m_thoughtSlow, .int m_came, .ref (md 44), .int m_acts, .int m_undone, .ref (md 47), .ref (md 48), .int m_laid, .ref (md 50), .ref (md 51), .ref (md 52), .ref (md 53), .ref (md 54), .int m_seens, .int m_time, .ref (md 57), .ref (md 58)]))] H := hP
    have hD : va_D A [(hM, .inr (7, [.ref (md 0), .ref (md 1), .int m_taped, .int m_size, .int (u139704.2.1 0), .int (u139704.2.1 1), .int m_at, .int m_end, .int m_token, .int m_number, .long m_name, .ref (md 11), .ref (md 12), .ref (md 13), .ref (md 14), .ref (md 15), .ref (md 16), .ref (md 17), .ref (md 18), .ref (md 19), .ref (md 20), .ref (md 21), .ref (md 22), .ref (md 23), .ref (md 24), .ref (md 25), .ref (md 26), .ref (md 27), .ref (md 28), .int m_bank, .int m_rb, .int m_codes, .int m_within, .int m_piled, .int m_unitsInRule, .int m_askFrom, .int m_askTo, .int m_askWrite, .int m_askUnder, .int m_askBack, .ref (md 40), .ref (md 41), .int m_thoughtSlow, .int m_came, .ref (md 44), .int m_acts, .int m_undone, .ref (md 47), .ref (md 48), .int m_laid, .ref (md 50), .ref (md 51), .ref (md 52), .ref (md 53), .ref (md 54), .int m_seens, .int m_time, .ref (md 57), .ref (md 58)]))] := hD
    have w139706 : 1 ≤ (u139704.2.1 0).toInt := by first | omega | assumption | rfl | (intros; rfl)
    exact W.vret hx hb hr (fun t ht hW => ⟨⟨((fun _ => fun _ => 0), (fun k => match k with | 0 => u139704.2.1 0 | _ => u139704.2.1 1), (fun _ => 0), (fun _ => fun _ => 0)), rfl, w139706, cE.of ht hP hD [0] (by decide) rfl⟩, hS.F ht⟩) hS.2.2 dX7_misplaced_21
  · have c139702 := i_eq (a := m_token.toInt) (b := 1) c139702 rfl (by decide)
    refine lv_iconst (v := 1) hx hb dX7_misplaced_9 (by decide) ?_
    refine lv_goto (tgt := 14) hx hb dX7_misplaced_10 (by decide) ?_
    refine lv_aload_n hx hb dX7_misplaced_14 rfl (lv_at hl 0 rfl) ?_
    refine va_get (D := (dC, dI)) (ci := 7) (v := .int m_at) (C := RX7) (T := TX7) (N := 59) hx hb hts hi7 hown hK hP 0 rfl rfl 6 (by decide) (hts _ (ow_m (k := 1) rfl)) (fun _ h9 => h9) rfl dX7_misplaced_15 ?_
    refine gf_v (wr := []) (va_runV (As := [.int 1, .int m_at]) (rest := []) hfix (k_M_fails2 l dC dI cyB cyI cyJ cyZ cyO hM md m_taped m_size m_faultKind m_faultPlace m_at m_end m_token m_number m_bank m_rb m_codes m_within m_piled m_unitsInRule m_askFrom m_askTo m_askWrite m_askUnder m_askBack m_thoughtSlow m_came m_acts m_undone m_laid m_seens m_time m_name (1 : Int32) m_at _ (by first | omega | assumption) (by first | omega | assumption) (by first | omega | assumption) (by first | omega | assumption) (by first | omega | assumption) (by first | omega | assumption) (by first | omega | assumption) (by first | omega | assumption) (by first | omega | assumption) (by first | omega | assumption) (by first | omega | assumption) (by first | omega | assumption) (by first | omega | assumption) (by first | omega | assumption) (by first | omega | assumption) (by first | omega | assumption) (by first | omega | assumption) (by first | omega | assumption) (by first | omega | assumption) (by first | omega | assumption)) (cwV 2 hts (gi_V (ow_m (k := 2) rfl) (ow_m (k := 3) rfl) (ow_m (k := 4) rfl) (ow_m (k := 5) rfl) (sb_c sb_l) gd_k_M_fails2) rfl rfl rfl (by decide +kernel) ⟨Nat.le_of_ble_eq_true rfl, Nat.le_of_ble_eq_true rfl⟩) (g_preV hKN hP hD [0] rfl (by decide) 0 7 rfl rfl) rfl rfl hl.1 rfl (lv_room (Nat.le_of_ble_eq_true rfl)) dX7_misplaced_18 ⟨Nat.le_of_ble_eq_true rfl, Nat.le_of_ble_eq_true rfl⟩) hP hD hS hA [0] [] rfl rfl (by decide) (by decide) (fun u139708 H locs qu139708 hP hD hS => ?_)
    have b139709 := qu139708
    have hP : va_P (dC, dI) vwCl [(hM, .inr (7, [.ref (md 0), .ref (md 1), .int m_taped, .int m_size, .int (u139708.2.1 0), .int (u139708.2.1 1), .int m_at, .int m_end, .int m_token, .int m_number, .long m_name, .ref (md 11), .ref (md 12), .ref (md 13), .ref (md 14), .ref (md 15), .ref (md 16), .ref (md 17), .ref (md 18), .ref (md 19), .ref (md 20), .ref (md 21), .ref (md 22), .ref (md 23), .ref (md 24), .ref (md 25), .ref (md 26), .ref (md 27), .ref (md 28), .int m_bank, .int m_rb, .int m_codes, .int m_within, .int m_piled, .int m_unitsInRule, .int m_askFrom, .int m_askTo, .int m_askWrite, .int m_askUnder, .int m_askBack, .ref (md 40), .ref (md 41), .int m_thoughtSlow, .int m_came, .ref (md 44), .int m_acts, .int m_undone, .ref (md 47), .ref (md 48), .int m_laid, .ref (md 50), .ref (md 51), .ref (md 52), .ref (md 53), .ref (md 54), .int m_seens, .int m_time, .ref (md 57), .ref (md 58)]))] H := hP
    have hD : va_D A [(hM, .inr (7, [.ref (md 0), .ref (md 1), .int m_taped, .int m_size, .int (u139708.2.1 0), .int (u139708.2.1 1), .int m_at, .int m_end, .int m_token, .int m_number, .long m_name, .ref (md 11), .ref (md 12), .ref (md 13), .ref (md 14), .ref (md 15), .ref (md 16), .ref (md 17), .ref (md 18), .ref (md 19), .ref (md 20), .ref (md 21), .ref (md 22), .ref (md 23), .ref (md 24), .ref (md 25), .ref (md 26), .ref (md 27), .ref (md 28), .int m_bank, .int m_rb, .int m_codes, .int m_within, .int m_piled, .int m_unitsInRule, .int m_askFrom, .int m_askTo, .int m_askWrite, .int m_askUnder, .int m_askBack, .ref (md 40), .ref (md 41), .int m_thoughtSlow, .int m_came, .ref (md 44), .int m_acts, .int m_undone, .ref (md 47), .ref (md 48), .int m_laid, .ref (md 50), .ref (md 51), .ref (md 52), .ref (md 53), .ref (md 54), .int m_seens, .int m_time, .ref (md 57), .ref (md 58)]))] := hD
    have w139710 : 1 ≤ (u139708.2.1 0).toInt := by first | omega | assumption | rfl | (intros; rfl)
    exact W.vret hx hb hr (fun t ht hW => ⟨⟨((fun _ => fun _ => 0), (fun k => match k with | 0 => u139708.2.1 0 | _ => u139708.2.1 1), (fun _ => 0), (fun _ => fun _ => 0)), rfl, w139710, cE.of ht hP hD [0] (by decide) rfl⟩, hS.F ht⟩) hS.2.2 dX7_misplaced_21
