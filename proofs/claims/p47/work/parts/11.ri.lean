/-! the row of a chain: its nodes are apart, what they have falls along it, what is clean rises along it, at the tail all is clean; who copies is not in it -/
theorem tn_inj {a b : Int32} (ha : 0 ≤ a.toInt) (hb : 0 ≤ b.toInt) (h : a.toNatClampNeg = b.toNatClampNeg) : a = b := by
  have h2 : a.toInt.toNat = b.toInt.toNat := h
  exact Int32.toInt_inj.mp (by omega)
theorem tn_lt {a : Int32} {n : Nat} (ha : 0 ≤ a.toInt) (hn : a.toInt < n) : a.toNatClampNeg < n := by
  show a.toInt.toNat < n
  omega
abbrev nn (x : Int32) : Nat := x.toNatClampNeg
def RI (size copier : Int32) (row has clean : Nat → Int32) : Prop :=
  (∀ x y : Int32, 0 ≤ x.toInt → x.toInt < size.toInt → 0 ≤ y.toInt → y.toInt < size.toInt → row x.toNatClampNeg = row y.toNatClampNeg → x = y) ∧
  (∀ x y : Int32, 0 ≤ x.toInt → y.toInt = x.toInt + 1 → y.toInt < size.toInt → (has (row y.toNatClampNeg).toNatClampNeg).toInt ≤ (has (row x.toNatClampNeg).toNatClampNeg).toInt) ∧
  (∀ x y : Int32, 0 ≤ x.toInt → y.toInt = x.toInt + 1 → y.toInt < size.toInt → (clean (row x.toNatClampNeg).toNatClampNeg).toInt ≤ (clean (row y.toNatClampNeg).toNatClampNeg).toInt) ∧
  (∀ x : Int32, 0 ≤ x.toInt → x.toInt + 1 = size.toInt → (clean (row x.toNatClampNeg).toNatClampNeg).toInt ≤ (has (row x.toNatClampNeg).toNatClampNeg).toInt) ∧
  (∀ x : Int32, 0 ≤ x.toInt → x.toInt < size.toInt → row x.toNatClampNeg ≠ copier)
theorem upd_at {f : Nat → Int32} {k : Nat} {v : Int32} : upd f k v k = v := by unfold upd; rw [if_pos rfl]
theorem upd_ne {f : Nat → Int32} {k j : Nat} {v : Int32} (h : j ≠ k) : upd f k v j = f j := by unfold upd; rw [if_neg h]
/-- places of the row with the same node's index are the same -/
theorem RI.inj {size copier : Int32} {row has clean : Nat → Int32} (h : RI size copier row has clean) (hr : In2 row 0 6 0 7) (hs : size.toInt ≤ 6) {x y : Int32} (hx : 0 ≤ x.toInt) (hx2 : x.toInt < size.toInt) (hy : 0 ≤ y.toInt) (hy2 : y.toInt < size.toInt) (e : (row x.toNatClampNeg).toNatClampNeg = (row y.toNatClampNeg).toNatClampNeg) : x = y :=
  h.1 x y hx hx2 hy hy2 (tn_inj (hr _ (Nat.zero_le _) (tn_lt hx (by omega))).1 (hr _ (Nat.zero_le _) (tn_lt hy (by omega))).1 e)
/-- a member that is not the tail gets a write -/
theorem RI.take1 {size copier : Int32} {row has clean : Nat → Int32} (h : RI size copier row has clean) (hr : In2 row 0 6 0 7) (hs : size.toInt ≤ 6) {x w : Int32} (hx : 0 ≤ x.toInt) (hx2 : x.toInt + 1 < size.toInt) (h1 : (has (row x.toNatClampNeg).toNatClampNeg).toInt ≤ w.toInt) (h2 : ∀ y : Int32, 0 ≤ y.toInt → x.toInt = y.toInt + 1 → w.toInt ≤ (has (row y.toNatClampNeg).toNatClampNeg).toInt) : RI size copier row (upd has (row x.toNatClampNeg).toNatClampNeg w) clean := by
  refine ⟨h.1, ?_, h.2.2.1, ?_, h.2.2.2.2⟩
  · intro a b ha hb hb2
    have hab := h.2.1 a b ha hb hb2
    by_cases e1 : (row a.toNatClampNeg).toNatClampNeg = (row x.toNatClampNeg).toNatClampNeg
    · have ea := h.inj hr hs ha (by omega) hx (by omega) e1
      subst ea
      have hne : (row b.toNatClampNeg).toNatClampNeg ≠ (row a.toNatClampNeg).toNatClampNeg := fun e => by
        have := h.inj hr hs (by omega) hb2 ha (by omega) e
        subst this
        omega
      rw [upd_at, upd_ne hne]
      omega
    · rw [upd_ne e1]
      by_cases e2 : (row b.toNatClampNeg).toNatClampNeg = (row x.toNatClampNeg).toNatClampNeg
      · have eb := h.inj hr hs (by omega) hb2 hx (by omega) e2
        subst eb
        rw [upd_at]
        exact h2 a ha hb
      · rw [upd_ne e2]
        exact hab
  · intro a ha ha2
    have hne : (row a.toNatClampNeg).toNatClampNeg ≠ (row x.toNatClampNeg).toNatClampNeg := fun e => by
      have := h.inj hr hs ha (by omega) hx (by omega) e
      subst this
      omega
    rw [upd_ne hne]
    exact h.2.2.2.1 a ha ha2
/-- the tail gets a write -/
theorem RI.take2 {size copier : Int32} {row has clean : Nat → Int32} (h : RI size copier row has clean) (hr : In2 row 0 6 0 7) (hs : size.toInt ≤ 6) {x w : Int32} (hx : 0 ≤ x.toInt) (hx2 : x.toInt + 1 = size.toInt) (h1 : (has (row x.toNatClampNeg).toNatClampNeg).toInt ≤ w.toInt) (h2 : ∀ y : Int32, 0 ≤ y.toInt → x.toInt = y.toInt + 1 → w.toInt ≤ (has (row y.toNatClampNeg).toNatClampNeg).toInt) : RI size copier row (upd has (row x.toNatClampNeg).toNatClampNeg w) (upd clean (row x.toNatClampNeg).toNatClampNeg w) := by
  have hc := h.2.2.2.1 x hx hx2
  refine ⟨h.1, ?_, ?_, ?_, h.2.2.2.2⟩
  · intro a b ha hb hb2
    have hab := h.2.1 a b ha hb hb2
    have e1 : (row a.toNatClampNeg).toNatClampNeg ≠ (row x.toNatClampNeg).toNatClampNeg := fun e => by
      have := h.inj hr hs ha (by omega) hx (by omega) e
      subst this
      omega
    rw [upd_ne e1]
    by_cases e2 : (row b.toNatClampNeg).toNatClampNeg = (row x.toNatClampNeg).toNatClampNeg
    · have eb := h.inj hr hs (by omega) hb2 hx (by omega) e2
      subst eb
      rw [upd_at]
      exact h2 a ha hb
    · rw [upd_ne e2]
      exact hab
  · intro a b ha hb hb2
    have hab := h.2.2.1 a b ha hb hb2
    have e1 : (row a.toNatClampNeg).toNatClampNeg ≠ (row x.toNatClampNeg).toNatClampNeg := fun e => by
      have := h.inj hr hs ha (by omega) hx (by omega) e
      subst this
      omega
    rw [upd_ne e1]
    by_cases e2 : (row b.toNatClampNeg).toNatClampNeg = (row x.toNatClampNeg).toNatClampNeg
    · have eb := h.inj hr hs (by omega) hb2 hx (by omega) e2
      subst eb
      rw [upd_at]
      omega
    · rw [upd_ne e2]
      exact hab
  · intro a ha ha2
    have : a = x := Int32.toInt_inj.mp (by omega)
    subst this
    rw [upd_at, upd_at]
    exact Int.le_refl _
/-- a write becomes clean to a member that is not the tail -/
theorem RI.cl {size copier : Int32} {row has clean : Nat → Int32} (h : RI size copier row has clean) (hr : In2 row 0 6 0 7) (hs : size.toInt ≤ 6) {x w : Int32} (hx : 0 ≤ x.toInt) (hx2 : x.toInt + 1 < size.toInt) (h1 : (clean (row x.toNatClampNeg).toNatClampNeg).toInt ≤ w.toInt) (h2 : ∀ y : Int32, y.toInt = x.toInt + 1 → w.toInt ≤ (clean (row y.toNatClampNeg).toNatClampNeg).toInt) : RI size copier row has (upd clean (row x.toNatClampNeg).toNatClampNeg w) := by
  refine ⟨h.1, h.2.1, ?_, ?_, h.2.2.2.2⟩
  · intro a b ha hb hb2
    have hab := h.2.2.1 a b ha hb hb2
    by_cases e1 : (row a.toNatClampNeg).toNatClampNeg = (row x.toNatClampNeg).toNatClampNeg
    · have ea := h.inj hr hs ha (by omega) hx (by omega) e1
      subst ea
      have hne : (row b.toNatClampNeg).toNatClampNeg ≠ (row a.toNatClampNeg).toNatClampNeg := fun e => by
        have := h.inj hr hs (by omega) hb2 ha (by omega) e
        subst this
        omega
      rw [upd_at, upd_ne hne]
      exact h2 b hb
    · rw [upd_ne e1]
      by_cases e2 : (row b.toNatClampNeg).toNatClampNeg = (row x.toNatClampNeg).toNatClampNeg
      · have eb := h.inj hr hs (by omega) hb2 hx (by omega) e2
        subst eb
        rw [upd_at]
        omega
      · rw [upd_ne e2]
        exact hab
  · intro a ha ha2
    have hne : (row a.toNatClampNeg).toNatClampNeg ≠ (row x.toNatClampNeg).toNatClampNeg := fun e => by
      have := h.inj hr hs ha (by omega) hx (by omega) e
      subst this
      omega
    rw [upd_ne hne]
    exact h.2.2.2.1 a ha ha2
/-- one write more has come down to the place behind x: what the loop over them keeps -/
theorem RI.down {size copier : Int32} {row has clean : Nat → Int32} (h : RI size copier row has clean) (hr : In2 row 0 6 0 7) (hs : size.toInt ≤ 6) {x y w v M : Int32} (hx : 0 ≤ x.toInt) (hy : y.toInt = x.toInt + 1) (hy2 : y.toInt < size.toInt) (hM : has (row x.toNatClampNeg).toNatClampNeg = M) (hv : v.toInt = w.toInt + 1) {has' : Nat → Int32} (e : has' = upd has (row y.toNatClampNeg).toNatClampNeg w) : has' (row x.toNatClampNeg).toNatClampNeg = M ∧ ∀ z : Int32, z.toInt = x.toInt + 1 → v.toInt = (has' (row z.toNatClampNeg).toNatClampNeg).toInt + 1 := by
  refine ⟨?_, fun z hz => ?_⟩
  · have hne : (row x.toNatClampNeg).toNatClampNeg ≠ (row y.toNatClampNeg).toNatClampNeg := fun q => by
      have := h.inj hr hs hx (by omega) (by omega) hy2 q
      subst this
      omega
    rw [e, upd_ne hne]
    exact hM
  · have : z = y := Int32.toInt_inj.mp (by omega)
    subst this
    rw [e, upd_at]
    exact hv
/-- the tail's own: what is clean to it rises, up to what it has -/
theorem RI.clT {size copier : Int32} {row has clean : Nat → Int32} (h : RI size copier row has clean) (hr : In2 row 0 6 0 7) (hs : size.toInt ≤ 6) {x w : Int32} (hx : 0 ≤ x.toInt) (hx2 : x.toInt + 1 = size.toInt) (h1 : (clean (row x.toNatClampNeg).toNatClampNeg).toInt ≤ w.toInt) (h2 : w.toInt ≤ (has (row x.toNatClampNeg).toNatClampNeg).toInt) : RI size copier row has (upd clean (row x.toNatClampNeg).toNatClampNeg w) := by
  refine ⟨h.1, h.2.1, ?_, ?_, h.2.2.2.2⟩
  · intro a b ha hb hb2
    have hab := h.2.2.1 a b ha hb hb2
    have e1 : (row a.toNatClampNeg).toNatClampNeg ≠ (row x.toNatClampNeg).toNatClampNeg := fun e => by
      have := h.inj hr hs ha (by omega) hx (by omega) e
      subst this
      omega
    rw [upd_ne e1]
    by_cases e2 : (row b.toNatClampNeg).toNatClampNeg = (row x.toNatClampNeg).toNatClampNeg
    · have eb := h.inj hr hs (by omega) hb2 hx (by omega) e2
      subst eb
      rw [upd_at]
      omega
    · rw [upd_ne e2]
      exact hab
  · intro a ha ha2
    have : a = x := Int32.toInt_inj.mp (by omega)
    subst this
    rw [upd_at]
    exact h2
/-- all of a row's nodes have what the tail has, and what is clean is what they have at most -/
theorem RI.le {size copier : Int32} {row has clean : Nat → Int32} (h : RI size copier row has clean) : ∀ (n : Nat) (x : Int32), 0 ≤ x.toInt → x.toInt + 1 + n = size.toInt → (clean (row x.toNatClampNeg).toNatClampNeg).toInt ≤ (has (row x.toNatClampNeg).toNatClampNeg).toInt
  | 0, x, h0, h1 => h.2.2.2.1 x h0 (by omega)
  | n + 1, x, h0, h1 => by
    have hlt := size.toInt_lt
    obtain ⟨y, hy⟩ : ∃ y : Int32, y.toInt = x.toInt + 1 := ⟨x + 1, ti_add (a := x.toInt) (b := 1) rfl rfl (by decide) (by omega) (by omega)⟩
    have i1 := RI.le h n y (by omega) (by omega)
    have i2 := h.2.1 x y h0 hy (by omega)
    have i3 := h.2.2.1 x y h0 hy (by omega)
    omega
/-- one that has copied joins at the end -/
theorem RI.join {size copier : Int32} {row has clean : Nat → Int32} (h : RI size copier row has clean) (hr : In2 row 0 6 0 7) (hs : size.toInt ≤ 5) (hs1 : 0 < size.toInt) (hc : 0 ≤ copier.toInt) {x had n size' : Int32} (hx : x.toInt + 1 = size.toInt) (en : n = row x.toNatClampNeg) (eh : had = has n.toNatClampNeg) (hz : size'.toInt = size.toInt + 1) {row' has' clean' : Nat → Int32} (e1 : upd row size.toNatClampNeg copier = row') (e2 : upd has copier.toNatClampNeg had = has') (e3 : upd clean copier.toNatClampNeg had = clean') : RI size' (-1) row' has' clean' := by
  have hsz : size.toNatClampNeg = size.toInt.toNat := rfl
  have r1 : ∀ y : Int32, 0 ≤ y.toInt → y.toInt < size.toInt → row' y.toNatClampNeg = row y.toNatClampNeg := by
    intro y h0 h1
    rw [← e1]
    refine upd_ne ?_
    show y.toInt.toNat ≠ size.toInt.toNat
    omega
  have r2 : ∀ y : Int32, y.toInt = size.toInt → row' y.toNatClampNeg = copier := by
    intro y h0
    have : y = size := Int32.toInt_inj.mp h0
    rw [this, ← e1, upd_at]
  have nc : ∀ y : Int32, 0 ≤ y.toInt → y.toInt < size.toInt → (row y.toNatClampNeg).toNatClampNeg ≠ copier.toNatClampNeg := fun y h0 h1 e =>
    h.2.2.2.2 y h0 h1 (tn_inj (hr _ (Nat.zero_le _) (tn_lt h0 (by omega))).1 hc e)
  subst en
  have hm1 : (-1 : Int32).toInt = -1 := by decide
  refine ⟨?_, ?_, ?_, ?_, ?_⟩
  · intro a b ha ha2 hb hb2 e
    by_cases q1 : a.toInt < size.toInt <;> by_cases q2 : b.toInt < size.toInt
    · rw [r1 a ha q1, r1 b hb q2] at e
      exact h.1 a b ha q1 hb q2 e
    · rw [r1 a ha q1, r2 b (by omega)] at e
      exact absurd e (h.2.2.2.2 a ha q1)
    · rw [r2 a (by omega), r1 b hb q2] at e
      exact absurd e.symm (h.2.2.2.2 b hb q2)
    · exact Int32.toInt_inj.mp (by omega)
  · intro a b ha hb hb2
    by_cases q2 : b.toInt < size.toInt
    · rw [r1 a ha (by omega), r1 b (by omega) q2, ← e2, upd_ne (nc a ha (by omega)), upd_ne (nc b (by omega) q2)]
      exact h.2.1 a b ha hb q2
    · have ax : a = x := Int32.toInt_inj.mp (by omega)
      rw [r1 a ha (by omega), r2 b (by omega), ← e2, upd_ne (nc a ha (by omega)), upd_at, eh, ax]
      exact Int.le_refl _
  · intro a b ha hb hb2
    by_cases q2 : b.toInt < size.toInt
    · rw [r1 a ha (by omega), r1 b (by omega) q2, ← e3, upd_ne (nc a ha (by omega)), upd_ne (nc b (by omega) q2)]
      exact h.2.2.1 a b ha hb q2
    · have ax : a = x := Int32.toInt_inj.mp (by omega)
      rw [r1 a ha (by omega), r2 b (by omega), ← e3, upd_ne (nc a ha (by omega)), upd_at, eh, ax]
      exact h.2.2.2.1 x (by omega) (by omega)
  · intro a ha ha2
    rw [r2 a (by omega), ← e2, ← e3, upd_at, upd_at]
    exact Int.le_refl _
  · intro a ha ha2 e
    by_cases q1 : a.toInt < size.toInt
    · rw [r1 a ha q1] at e
      have := (hr _ (Nat.zero_le _) (tn_lt (a := a) (n := 6) ha (by omega))).1
      rw [e] at this
      omega
    · rw [r2 a (by omega)] at e
      rw [e] at hc
      omega
/-- a row from whose place p on all has moved ahead by one, up to the place i -/
def SH (r r' : Nat → Int32) (p i : Int32) : Prop := ∀ y : Int32, 0 ≤ y.toInt → (y.toInt < p.toInt → r' y.toNatClampNeg = r y.toNatClampNeg) ∧ (p.toInt ≤ y.toInt → y.toInt < i.toInt → ∀ z : Int32, z.toInt = y.toInt + 1 → r' y.toNatClampNeg = r z.toNatClampNeg) ∧ (i.toInt ≤ y.toInt → r' y.toNatClampNeg = r y.toNatClampNeg)
theorem SH.refl {r : Nat → Int32} {p : Int32} : SH r r p p := fun _ _ => ⟨fun _ => rfl, fun _ _ => by omega, fun _ => rfl⟩
theorem SH.step {r r' r'' : Nat → Int32} {p i j z : Int32} (h : SH r r' p i) (hi : 0 ≤ i.toInt) (hp : p.toInt ≤ i.toInt) (hj : j.toInt = i.toInt + 1) (ez : z = r' j.toNatClampNeg) (e : upd r' i.toNatClampNeg z = r'') : SH r r'' p j := by
  intro y h0
  have hy := h y h0
  have hjj := (h j (by omega)).2.2 (by omega)
  by_cases q : y.toInt = i.toInt
  · have : y = i := Int32.toInt_inj.mp q
    subst this
    refine ⟨fun _ => by omega, fun _ _ w hw => ?_, fun _ => by omega⟩
    have : w = j := Int32.toInt_inj.mp (by omega)
    subst this
    rw [← e, upd_at, ez, hjj]
  · have ne : y.toNatClampNeg ≠ i.toNatClampNeg := by
      show y.toInt.toNat ≠ i.toInt.toNat
      omega
    rw [← e, upd_ne ne]
    exact ⟨hy.1, fun a b => hy.2.1 a (by omega), fun a => hy.2.2 (by omega)⟩
/-- one is out of the row -/
theorem RI.cut {size copier : Int32} {row has clean : Nat → Int32} (h : RI size copier row has clean) (hr : In2 row 0 6 0 7) (hs : size.toInt ≤ 6) {p i n size' : Int32} (hp : 0 ≤ p.toInt) (hp2 : p.toInt < size.toInt) (en : row p.toNatClampNeg = n) {row' has' clean' : Nat → Int32} (hsh : SH row row' p i) (hi : i.toInt + 1 = size.toInt) (hz : size'.toInt + 1 = size.toInt) (e2 : upd has n.toNatClampNeg 0 = has') (e3 : upd clean n.toNatClampNeg 0 = clean') : RI size' copier row' has' clean' := by
  subst en
  -- each place of the new row is one of the elder, not p's
  have key : ∀ a : Int32, 0 ≤ a.toInt → a.toInt < size'.toInt → ∃ b : Int32, b.toInt = (if a.toInt < p.toInt then a.toInt else a.toInt + 1) ∧ row' a.toNatClampNeg = row b.toNatClampNeg ∧ (row b.toNatClampNeg).toNatClampNeg ≠ (row p.toNatClampNeg).toNatClampNeg := by
    intro a ha ha2
    have hlt := size.toInt_lt
    by_cases q : a.toInt < p.toInt
    · refine ⟨a, by rw [if_pos q], (hsh a ha).1 q, fun e => ?_⟩
      have := h.inj hr hs ha (by omega) hp hp2 e
      subst this
      omega
    · obtain ⟨y, hy⟩ : ∃ y : Int32, y.toInt = a.toInt + 1 := ⟨a + 1, ti_add (a := a.toInt) (b := 1) rfl rfl (by decide) (by omega) (by omega)⟩
      refine ⟨y, by rw [if_neg q]; exact hy, (hsh a ha).2.1 (by omega) (by omega) y hy, fun e => ?_⟩
      have := h.inj hr hs (by omega) (by omega) hp hp2 e
      subst this
      omega
  refine ⟨?_, ?_, ?_, ?_, ?_⟩
  · intro a b ha ha2 hb hb2 e
    obtain ⟨a1, ea, ra, na⟩ := key a ha ha2
    obtain ⟨b1, eb, rb, nb⟩ := key b hb hb2
    rw [ra, rb] at e
    have q : a1 = b1 := h.1 a1 b1 (by split at ea <;> omega) (by split at ea <;> omega) (by split at eb <;> omega) (by split at eb <;> omega) e
    rw [q] at ea
    apply Int32.toInt_inj.mp
    split at ea <;> split at eb <;> omega
  · intro a b ha hb hb2
    obtain ⟨a1, ea, ra, na⟩ := key a ha (by omega)
    obtain ⟨b1, eb, rb, nb⟩ := key b (by omega) hb2
    rw [ra, rb, ← e2, upd_ne na, upd_ne nb]
    by_cases q : b1.toInt = a1.toInt + 1
    · exact h.2.1 a1 b1 (by split at ea <;> omega) q (by split at eb <;> omega)
    · have q1 := h.2.1 a1 p (by split at ea <;> omega) (by split at ea <;> split at eb <;> omega) (by omega)
      have q2 := h.2.1 p b1 hp (by split at ea <;> split at eb <;> omega) (by split at eb <;> omega)
      omega
  · intro a b ha hb hb2
    obtain ⟨a1, ea, ra, na⟩ := key a ha (by omega)
    obtain ⟨b1, eb, rb, nb⟩ := key b (by omega) hb2
    rw [ra, rb, ← e3, upd_ne na, upd_ne nb]
    by_cases q : b1.toInt = a1.toInt + 1
    · exact h.2.2.1 a1 b1 (by split at ea <;> omega) q (by split at eb <;> omega)
    · have q1 := h.2.2.1 a1 p (by split at ea <;> omega) (by split at ea <;> split at eb <;> omega) (by omega)
      have q2 := h.2.2.1 p b1 hp (by split at ea <;> split at eb <;> omega) (by split at eb <;> omega)
      omega
  · intro a ha ha2
    obtain ⟨a1, ea, ra, na⟩ := key a ha (by omega)
    rw [ra, ← e2, ← e3, upd_ne na, upd_ne na]
    exact h.le (size.toInt - 1 - a1.toInt).toNat a1 (by split at ea <;> omega) (by split at ea <;> omega)
  · intro a ha ha2
    obtain ⟨a1, ea, ra, na⟩ := key a ha ha2
    rw [ra]
    exact h.2.2.2.2 a1 (by split at ea <;> omega) (by split at ea <;> omega)
/-- what the row's order says hangs on its own places alone -/
theorem RI.cong {size copier : Int32} {row has clean row' has' clean' : Nat → Int32} (h : RI size copier row has clean) (hr : In2 row 0 6 0 7) (hs : size.toInt ≤ 6) (h1 : ∀ j, j < 6 → row' j = row j) (h2 : ∀ j, j < 8 → has' j = has j) (h3 : ∀ j, j < 8 → clean' j = clean j) : RI size copier row' has' clean' := by
  have r1 : ∀ y : Int32, 0 ≤ y.toInt → y.toInt < size.toInt → row' y.toNatClampNeg = row y.toNatClampNeg := fun y h0 hy => h1 _ (tn_lt h0 (by omega))
  have r2 : ∀ y : Int32, 0 ≤ y.toInt → y.toInt < size.toInt → (row y.toNatClampNeg).toNatClampNeg < 8 := fun y h0 hy => by
    have := hr y.toNatClampNeg (Nat.zero_le _) (tn_lt h0 (by omega))
    exact tn_lt this.1 (by omega)
  refine ⟨?_, ?_, ?_, ?_, ?_⟩
  · intro a b ha ha2 hb hb2 e
    rw [r1 a ha ha2, r1 b hb hb2] at e
    exact h.1 a b ha ha2 hb hb2 e
  · intro a b ha hb hb2
    rw [r1 a ha (by omega), r1 b (by omega) hb2, h2 _ (r2 a ha (by omega)), h2 _ (r2 b (by omega) hb2)]
    exact h.2.1 a b ha hb hb2
  · intro a b ha hb hb2
    rw [r1 a ha (by omega), r1 b (by omega) hb2, h3 _ (r2 a ha (by omega)), h3 _ (r2 b (by omega) hb2)]
    exact h.2.2.1 a b ha hb hb2
  · intro a ha ha2
    rw [r1 a ha (by omega), h2 _ (r2 a ha (by omega)), h3 _ (r2 a ha (by omega))]
    exact h.2.2.2.1 a ha ha2
  · intro a ha ha2
    rw [r1 a ha ha2]
    exact h.2.2.2.2 a ha ha2
theorem cpy_in {f g : Nat → Int32} {m : Nat} (j : Nat) (hj : j < m) : va_cpy f g 0 0 m j = f j := by
  unfold va_cpy
  rw [if_pos (by omega), show 0 + (j - 0) = j by omega]
/-- a told row: its nodes rise -/
def PI (mC nC : Int32) (members : Nat → Int32) : Prop := (∀ x : Int32, 0 ≤ x.toInt → x.toInt < mC.toInt → 0 ≤ (members x.toNatClampNeg).toInt ∧ (members x.toNatClampNeg).toInt < nC.toInt) ∧ ∀ x y : Int32, 0 ≤ x.toInt → x.toInt < y.toInt → y.toInt < mC.toInt → (members x.toNatClampNeg).toInt < (members y.toNatClampNeg).toInt
theorem PI.z {nC : Int32} {members : Nat → Int32} : PI 0 nC members := by
  have h0 : (0 : Int32).toInt = 0 := by decide
  exact ⟨fun x h1 h2 => by omega, fun x y h1 h2 h3 => by omega⟩
theorem PI.add {mC nC mC' nC' : Int32} {members members' : Nat → Int32} (h : PI mC nC members) (h0 : 0 ≤ mC.toInt) (h1 : 0 ≤ nC.toInt) (hm : mC'.toInt = mC.toInt + 1) (hn : nC'.toInt = nC.toInt + 1) (e : upd members mC.toNatClampNeg nC = members') : PI mC' nC' members' := by
  have r1 : ∀ y : Int32, 0 ≤ y.toInt → y.toInt < mC.toInt → members' y.toNatClampNeg = members y.toNatClampNeg := by
    intro y h0 h1
    rw [← e]
    refine upd_ne ?_
    show y.toInt.toNat ≠ mC.toInt.toNat
    omega
  have r2 : ∀ y : Int32, y.toInt = mC.toInt → members' y.toNatClampNeg = nC := by
    intro y h0
    have : y = mC := Int32.toInt_inj.mp h0
    rw [this, ← e, upd_at]
  refine ⟨fun x hx hx2 => ?_, fun x y hx hxy hy => ?_⟩
  · by_cases q : x.toInt < mC.toInt
    · rw [r1 x hx q]
      have := h.1 x hx q
      omega
    · rw [r2 x (by omega)]
      omega
  · by_cases q : y.toInt < mC.toInt
    · rw [r1 x hx (by omega), r1 y (by omega) q]
      exact h.2 x y hx hxy q
    · rw [r1 x hx (by omega), r2 y (by omega)]
      exact (h.1 x hx (by omega)).2
theorem PI.more {mC nC nC' : Int32} {members : Nat → Int32} (h : PI mC nC members) (hn : nC'.toInt = nC.toInt + 1) : PI mC nC' members := ⟨fun x hx hx2 => by have := h.1 x hx hx2; omega, h.2⟩
/-- a chain as it is told -/
theorem RI.start {mC nC size : Int32} {members row has clean : Nat → Int32} (h : PI mC nC members) (hs : size = mC) (h1 : ∀ y : Int32, 0 ≤ y.toInt → y.toInt < size.toInt → row y.toNatClampNeg = members y.toNatClampNeg) (h2 : ∀ j : Nat, j < 8 → has j = 0) (h3 : ∀ j : Nat, j < 8 → clean j = 0) (hr : In2 row 0 6 0 7) (h6 : size.toInt ≤ 6) : RI size (-1) row has clean := by
  subst hs
  have r2 : ∀ y : Int32, 0 ≤ y.toInt → y.toInt < size.toInt → (row y.toNatClampNeg).toNatClampNeg < 8 := fun y h0 hy => by
    have := hr y.toNatClampNeg (Nat.zero_le _) (tn_lt h0 (by omega))
    exact tn_lt this.1 (by omega)
  refine ⟨?_, ?_, ?_, ?_, ?_⟩
  · intro a b ha ha2 hb hb2 e
    rw [h1 a ha ha2, h1 b hb hb2] at e
    have e' : (members a.toNatClampNeg).toInt = (members b.toNatClampNeg).toInt := by rw [e]
    apply Int32.toInt_inj.mp
    rcases Int.lt_trichotomy a.toInt b.toInt with q | q | q
    · have := h.2 a b ha q hb2
      omega
    · exact q
    · have := h.2 b a hb q ha2
      omega
  · intro a b ha hb hb2
    rw [h2 _ (r2 a ha (by omega)), h2 _ (r2 b (by omega) hb2)]
    exact Int.le_refl _
  · intro a b ha hb hb2
    rw [h3 _ (r2 a ha (by omega)), h3 _ (r2 b (by omega) hb2)]
    exact Int.le_refl _
  · intro a ha ha2
    rw [h2 _ (r2 a ha (by omega)), h3 _ (r2 a ha (by omega))]
    exact Int.le_refl _
  · intro a ha ha2 e
    have := (hr a.toNatClampNeg (Nat.zero_le _) (tn_lt ha (by omega))).1
    rw [e] at this
    have hm1 : (-1 : Int32).toInt = -1 := by decide
    omega
/-- one write more is clean to the member at x: what the loop over them keeps -/
theorem RI.up {size copier : Int32} {row has clean : Nat → Int32} (h : RI size copier row has clean) (hr : In2 row 0 6 0 7) (hs : size.toInt ≤ 6) {x w n M : Int32} (hx : 0 ≤ x.toInt) (hx2 : x.toInt + 1 < size.toInt) (en : n = row x.toNatClampNeg) (hM : ∀ z : Int32, z.toInt = x.toInt + 1 → clean (row z.toNatClampNeg).toNatClampNeg = M) (h1 : (clean (row x.toNatClampNeg).toNatClampNeg).toInt ≤ w.toInt) (h2 : w.toInt ≤ M.toInt) {clean' : Nat → Int32} (e : upd clean n.toNatClampNeg w = clean') : RI size copier row has clean' ∧ clean' (row x.toNatClampNeg).toNatClampNeg = w ∧ ∀ z : Int32, z.toInt = x.toInt + 1 → clean' (row z.toNatClampNeg).toNatClampNeg = M := by
  subst en
  refine ⟨by rw [← e]; exact h.cl hr hs hx hx2 h1 (fun y hy => by rw [hM y hy]; exact h2), by rw [← e, upd_at], fun z hz => ?_⟩
  have hne : (row z.toNatClampNeg).toNatClampNeg ≠ (row x.toNatClampNeg).toNatClampNeg := fun q => by
    have := h.inj hr hs (by omega) (by omega) hx (by omega) q
    subst this
    omega
  rw [← e, upd_ne hne]
  exact hM z hz
