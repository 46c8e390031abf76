/-! the row of a chain: its nodes are apart, what they have falls along it, what is clean rises along it, at the tail all is clean; who copies is not in it -/
theorem tn_inj {a b : Int32} (ha : 0 ≤ a.toInt) (hb : 0 ≤ b.toInt) (h : a.toNatClampNeg = b.toNatClampNeg) : a = b := by
  have h2 : a.toInt.toNat = b.toInt.toNat := h
  exact Int32.toInt_inj.mp (by omega)
theorem tn_lt {a : Int32} {n : Nat} (ha : 0 ≤ a.toInt) (hn : a.toInt < n) : a.toNatClampNeg < n := by
  show a.toInt.toNat < n
  omega
abbrev nn (x : Int32) : Nat := x.toNatClampNeg
def RI (size copier : Int32) (row has clean : Nat → Int32) : Prop :=
  (∀ x y : Int32, 0 ≤ x.toInt → x.toInt < size.toInt → 0 ≤ y.toInt → y.toInt < size.toInt → row x.toNatClampNeg = row y.toNatClampNeg → x = y) ∧
  (∀ x y : Int32, 0 ≤ x.toInt → y.toInt = x.toInt + 1 → y.toInt < size.toInt → (has (row y.toNatClampNeg).toNatClampNeg).toInt ≤ (has (row x.toNatClampNeg).toNatClampNeg).toInt) ∧
  (∀ x y : Int32, 0 ≤ x.toInt → y.toInt = x.toInt + 1 → y.toInt < size.toInt → (clean (row x.toNatClampNeg).toNatClampNeg).toInt ≤ (clean (row y.toNatClampNeg).toNatClampNeg).toInt) ∧
  (∀ x : Int32, 0 ≤ x.toInt → x.toInt + 1 = size.toInt → clean (row x.toNatClampNeg).toNatClampNeg = has (row x.toNatClampNeg).toNatClampNeg) ∧
  (∀ x : Int32, 0 ≤ x.toInt → x.toInt < size.toInt → row x.toNatClampNeg ≠ copier)
theorem upd_at {f : Nat → Int32} {k : Nat} {v : Int32} : upd f k v k = v := by unfold upd; rw [if_pos rfl]
theorem upd_ne {f : Nat → Int32} {k j : Nat} {v : Int32} (h : j ≠ k) : upd f k v j = f j := by unfold upd; rw [if_neg h]
/-- places of the row with the same node's index are the same -/
theorem RI.inj {size copier : Int32} {row has clean : Nat → Int32} (h : RI size copier row has clean) (hr : In row 6 0 7) (hs : size.toInt ≤ 6) {x y : Int32} (hx : 0 ≤ x.toInt) (hx2 : x.toInt < size.toInt) (hy : 0 ≤ y.toInt) (hy2 : y.toInt < size.toInt) (e : (row x.toNatClampNeg).toNatClampNeg = (row y.toNatClampNeg).toNatClampNeg) : x = y :=
  h.1 x y hx hx2 hy hy2 (tn_inj (hr _ (tn_lt hx (by omega))).1 (hr _ (tn_lt hy (by omega))).1 e)
/-- a member that is not the tail gets a write -/
theorem RI.take1 {size copier : Int32} {row has clean : Nat → Int32} (h : RI size copier row has clean) (hr : In row 6 0 7) (hs : size.toInt ≤ 6) {x w : Int32} (hx : 0 ≤ x.toInt) (hx2 : x.toInt + 1 < size.toInt) (h1 : (has (row x.toNatClampNeg).toNatClampNeg).toInt ≤ w.toInt) (h2 : ∀ y : Int32, 0 ≤ y.toInt → x.toInt = y.toInt + 1 → w.toInt ≤ (has (row y.toNatClampNeg).toNatClampNeg).toInt) : RI size copier row (upd has (row x.toNatClampNeg).toNatClampNeg w) clean := by
  refine ⟨h.1, ?_, h.2.2.1, ?_, h.2.2.2.2⟩
  · intro a b ha hb hb2
    have hab := h.2.1 a b ha hb hb2
    by_cases e1 : (row a.toNatClampNeg).toNatClampNeg = (row x.toNatClampNeg).toNatClampNeg
    · have ea := h.inj hr hs ha (by omega) hx (by omega) e1
      subst ea
      have hne : (row b.toNatClampNeg).toNatClampNeg ≠ (row a.toNatClampNeg).toNatClampNeg := fun e => by
        have := h.inj hr hs (by omega) hb2 ha (by omega) e
        subst this
        omega
      rw [upd_at, upd_ne hne]
      omega
    · rw [upd_ne e1]
      by_cases e2 : (row b.toNatClampNeg).toNatClampNeg = (row x.toNatClampNeg).toNatClampNeg
      · have eb := h.inj hr hs (by omega) hb2 hx (by omega) e2
        subst eb
        rw [upd_at]
        exact h2 a ha hb
      · rw [upd_ne e2]
        exact hab
  · intro a ha ha2
    have hne : (row a.toNatClampNeg).toNatClampNeg ≠ (row x.toNatClampNeg).toNatClampNeg := fun e => by
      have := h.inj hr hs ha (by omega) hx (by omega) e
      subst this
      omega
    rw [upd_ne hne]
    exact h.2.2.2.1 a ha ha2
/-- the tail gets a write -/
theorem RI.take2 {size copier : Int32} {row has clean : Nat → Int32} (h : RI size copier row has clean) (hr : In row 6 0 7) (hs : size.toInt ≤ 6) {x w : Int32} (hx : 0 ≤ x.toInt) (hx2 : x.toInt + 1 = size.toInt) (h1 : (has (row x.toNatClampNeg).toNatClampNeg).toInt ≤ w.toInt) (h2 : ∀ y : Int32, 0 ≤ y.toInt → x.toInt = y.toInt + 1 → w.toInt ≤ (has (row y.toNatClampNeg).toNatClampNeg).toInt) : RI size copier row (upd has (row x.toNatClampNeg).toNatClampNeg w) (upd clean (row x.toNatClampNeg).toNatClampNeg w) := by
  have hc := h.2.2.2.1 x hx hx2
  refine ⟨h.1, ?_, ?_, ?_, h.2.2.2.2⟩
  · intro a b ha hb hb2
    have hab := h.2.1 a b ha hb hb2
    have e1 : (row a.toNatClampNeg).toNatClampNeg ≠ (row x.toNatClampNeg).toNatClampNeg := fun e => by
      have := h.inj hr hs ha (by omega) hx (by omega) e
      subst this
      omega
    rw [upd_ne e1]
    by_cases e2 : (row b.toNatClampNeg).toNatClampNeg = (row x.toNatClampNeg).toNatClampNeg
    · have eb := h.inj hr hs (by omega) hb2 hx (by omega) e2
      subst eb
      rw [upd_at]
      exact h2 a ha hb
    · rw [upd_ne e2]
      exact hab
  · intro a b ha hb hb2
    have hab := h.2.2.1 a b ha hb hb2
    have e1 : (row a.toNatClampNeg).toNatClampNeg ≠ (row x.toNatClampNeg).toNatClampNeg := fun e => by
      have := h.inj hr hs ha (by omega) hx (by omega) e
      subst this
      omega
    rw [upd_ne e1]
    by_cases e2 : (row b.toNatClampNeg).toNatClampNeg = (row x.toNatClampNeg).toNatClampNeg
    · have eb := h.inj hr hs (by omega) hb2 hx (by omega) e2
      subst eb
      rw [upd_at]
      rw [hc] at hab
      omega
    · rw [upd_ne e2]
      exact hab
  · intro a ha ha2
    have : a = x := Int32.toInt_inj.mp (by omega)
    subst this
    rw [upd_at, upd_at]
/-- a write becomes clean to a member that is not the tail -/
theorem RI.cl {size copier : Int32} {row has clean : Nat → Int32} (h : RI size copier row has clean) (hr : In row 6 0 7) (hs : size.toInt ≤ 6) {x w : Int32} (hx : 0 ≤ x.toInt) (hx2 : x.toInt + 1 < size.toInt) (h1 : (clean (row x.toNatClampNeg).toNatClampNeg).toInt ≤ w.toInt) (h2 : ∀ y : Int32, y.toInt = x.toInt + 1 → w.toInt ≤ (clean (row y.toNatClampNeg).toNatClampNeg).toInt) : RI size copier row has (upd clean (row x.toNatClampNeg).toNatClampNeg w) := by
  refine ⟨h.1, h.2.1, ?_, ?_, h.2.2.2.2⟩
  · intro a b ha hb hb2
    have hab := h.2.2.1 a b ha hb hb2
    by_cases e1 : (row a.toNatClampNeg).toNatClampNeg = (row x.toNatClampNeg).toNatClampNeg
    · have ea := h.inj hr hs ha (by omega) hx (by omega) e1
      subst ea
      have hne : (row b.toNatClampNeg).toNatClampNeg ≠ (row a.toNatClampNeg).toNatClampNeg := fun e => by
        have := h.inj hr hs (by omega) hb2 ha (by omega) e
        subst this
        omega
      rw [upd_at, upd_ne hne]
      exact h2 b hb
    · rw [upd_ne e1]
      by_cases e2 : (row b.toNatClampNeg).toNatClampNeg = (row x.toNatClampNeg).toNatClampNeg
      · have eb := h.inj hr hs (by omega) hb2 hx (by omega) e2
        subst eb
        rw [upd_at]
        omega
      · rw [upd_ne e2]
        exact hab
  · intro a ha ha2
    have hne : (row a.toNatClampNeg).toNatClampNeg ≠ (row x.toNatClampNeg).toNatClampNeg := fun e => by
      have := h.inj hr hs ha (by omega) hx (by omega) e
      subst this
      omega
    rw [upd_ne hne]
    exact h.2.2.2.1 a ha ha2
/-- one write more has come down to the place behind x: what the loop over them keeps -/
theorem RI.down {size copier : Int32} {row has clean : Nat → Int32} (h : RI size copier row has clean) (hr : In row 6 0 7) (hs : size.toInt ≤ 6) {x y w v M : Int32} (hx : 0 ≤ x.toInt) (hy : y.toInt = x.toInt + 1) (hy2 : y.toInt < size.toInt) (hM : has (row x.toNatClampNeg).toNatClampNeg = M) (hv : v.toInt = w.toInt + 1) {has' : Nat → Int32} (e : has' = upd has (row y.toNatClampNeg).toNatClampNeg w) : has' (row x.toNatClampNeg).toNatClampNeg = M ∧ ∀ z : Int32, z.toInt = x.toInt + 1 → v.toInt = (has' (row z.toNatClampNeg).toNatClampNeg).toInt + 1 := by
  refine ⟨?_, fun z hz => ?_⟩
  · have hne : (row x.toNatClampNeg).toNatClampNeg ≠ (row y.toNatClampNeg).toNatClampNeg := fun q => by
      have := h.inj hr hs hx (by omega) (by omega) hy2 q
      subst this
      omega
    rw [e, upd_ne hne]
    exact hM
  · have : z = y := Int32.toInt_inj.mp (by omega)
    subst this
    rw [e, upd_at]
    exact hv
