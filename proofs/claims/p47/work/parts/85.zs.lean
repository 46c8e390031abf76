theorem two {P : Nat → Prop} (h0 : P 0) (h1 : P 1) : ∀ i : Nat, i < 2 → P i := fun i hi => by
  match i, hi with
  | 0, _ => exact h0
  | 1, _ => exact h1
def tmZ (i : Nat) : Term := match i with
  | 0 => Term.string RX2 191
  | _ => Term.string RX2 179
set_option maxRecDepth 100000 in
theorem zel_0 : ∀ j : Nat, j < 128 → (flatC (Jvm.Cond.and given_1 narrow_1))[13 + j]? = some (Cond.eq (.elem (.field (tmZ 0) "java/lang/String" "value" "[B") (.int (Int32.ofNat j))) (.int ((bytZ.getD 0 []).getD j 0))) := by decide +kernel
set_option maxRecDepth 100000 in
theorem zel_1 : ∀ j : Nat, j < 11 → (flatC (Jvm.Cond.and given_1 narrow_1))[145 + j]? = some (Cond.eq (.elem (.field (tmZ 1) "java/lang/String" "value" "[B") (.int (Int32.ofNat j))) (.int ((bytZ.getD 1 []).getD j 0))) := by decide +kernel
set_option maxHeartbeats 4000000 in
set_option maxRecDepth 100000 in
theorem zs_start {p : Program} {s : State} {m : MethodId} {meth : Method} {c : Code} {b L : Nat} {xs : Nat → Int32} (C0 : lw_At p s m meth c b L xs) : ∃ adK adV : Nat → Nat, ZS adK adV (fun q : Nat => s.heap.size ≤ q) s s.heap := by
  obtain ⟨hx, hb, hr, hml, hown, hts, hX, hbl, hlocks, hgv⟩ := C0
  have hg := flat_of_before _ hgv
  have hA : ∀ a : Nat, a < s.heap.size → ¬ (fun q : Nat => s.heap.size ≤ q) a := fun a h => Nat.not_le.mpr h
  have hN : (Cond.not (Cond.eq (tmZ 0) (tmZ 1))).before #[Value.ref b] s = true := hg _ (by decide +kernel)
  have hne : ∀ i j : Nat, i < 2 → j < 2 → i ≠ j → (Cond.not (Cond.eq (tmZ i) (tmZ j))).before #[Value.ref b] s = true ∨ (Cond.not (Cond.eq (tmZ j) (tmZ i))).before #[Value.ref b] s = true := fun i j hi hj hij => by
    rcases (show (i = 0 ∧ j = 1) ∨ (i = 1 ∧ j = 0) by omega) with ⟨rfl, rfl⟩ | ⟨rfl, rfl⟩
    · exact Or.inl hN
    · exact Or.inr hN
  obtain ⟨adK, adV, h1, h2⟩ := vk_Sof (args := #[Value.ref b]) (s := s) (N := 2) (tm := tmZ) (len := lenZ) (byt := bytZ) (A := (fun q : Nat => s.heap.size ≤ q)) (two (P := fun i => lenZ.getD i 0 < 2 ^ 31) (by decide) (by decide)) (two (P := fun i => (Cond.exactly (tmZ i) "java/lang/String").before #[Value.ref b] s = true) (hg _ (by decide +kernel)) (hg _ (by decide +kernel))) (two (P := fun i => (Cond.eq (.field (tmZ i) "java/lang/String" "coder" "B") (.int 0)).before #[Value.ref b] s = true) (hg _ (by decide +kernel)) (hg _ (by decide +kernel))) (two (P := fun i => (Cond.arrayOf (.field (tmZ i) "java/lang/String" "value" "[B") .byte).before #[Value.ref b] s = true) (hg _ (by decide +kernel)) (hg _ (by decide +kernel))) (two (P := fun i => (Cond.eq (.length (.field (tmZ i) "java/lang/String" "value" "[B")) (.int (Int32.ofNat (lenZ.getD i 0)))).before #[Value.ref b] s = true) (hg _ (by decide +kernel)) (hg _ (by decide +kernel))) (two (P := fun i => ∀ j : Nat, j < lenZ.getD i 0 → (Cond.eq (.elem (.field (tmZ i) "java/lang/String" "value" "[B") (.int (Int32.ofNat j))) (.int ((bytZ.getD i []).getD j 0))).before #[Value.ref b] s = true) (fun j hj => hg _ (List.mem_of_getElem? (zel_0 j hj))) (fun j hj => hg _ (List.mem_of_getElem? (zel_1 j hj)))) hne hA
  exact ⟨adK, adV, h1, va_Zof (hts _ tw_314) (hts _ tw_315) (va_eqt (hg _ (by decide +kernel))) hA, va_Zqof (hts _ tw_316) (hts _ tw_317) (hg _ (by decide +kernel)) hA, vk_R.of (hts _ tw_318) (h2 0 (by decide)), vk_R.of (hts _ tw_319) (h2 1 (by decide))⟩
