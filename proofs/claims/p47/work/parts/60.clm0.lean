/-! contracts over larger worlds -/
theorem mapR {α : Type} (l : List α) : (List.range l.length).map (fun i => l[i]?) = l.map some := by
  apply List.ext_getElem?
  intro k
  rw [List.getElem?_map, List.getElem?_map]
  by_cases h : k < l.length
  · rw [List.getElem?_range h, List.getElem?_eq_getElem h]
    simp
  · rw [List.getElem?_eq_none (by simpa using h), List.getElem?_eq_none (by omega)]
    rfl
theorem permI {α : Type} {l l' : List α} (is : List Nat) (n : Nat) (hl : l.length = n) (h : is.isPerm (List.range n) = true) (hm : is.map (fun i => l[i]?) = l'.map some) : l'.Perm l := by
  have h1 : is.Perm (List.range l.length) := by rw [hl]; exact List.isPerm_iff.mp h
  have h2 := h1.map (fun i => l[i]?)
  rw [hm, mapR] at h2
  have h3 := h2.filterMap id
  simpa using h3
theorem mem_get {α : Type} {l : List α} {q : α} : q ∈ l ↔ ∃ k : Nat, l[k]? = some q := List.mem_iff_getElem?
theorem va_P.perm {D : va_G} {cl : List vw_C} {w w' : va_W} {H : Heap} (h : va_P D cl w H) (p : w'.Perm w) : va_P D cl w' H := fun k q hk => by
  obtain ⟨j, hj⟩ := mem_get.mp (p.subset (mem_get.mpr ⟨k, hk⟩))
  exact h j q hj
theorem va_D_iff {A : Nat → Prop} {w : va_W} : va_D A w ↔ (w.map Prod.fst).Nodup ∧ ∀ q ∈ w, A q.1 := by
  constructor
  · intro h
    refine ⟨?_, fun q hq => by obtain ⟨k, hk⟩ := mem_get.mp hq; exact h.2 k q hk⟩
    refine List.pairwise_iff_getElem.mpr (fun i j hi hj hij e => ?_)
    have hi2 : i < w.length := by rw [List.length_map] at hi; exact hi
    have hj2 : j < w.length := by rw [List.length_map] at hj; exact hj
    have e2 : w[i].1 = w[j].1 := by simpa using e
    have := h.1 i j w[i] w[j] (List.getElem?_eq_getElem hi2) (List.getElem?_eq_getElem hj2) e2
    omega
  · rintro ⟨h1, h2⟩
    refine ⟨fun i j p q hi hj e => ?_, fun k q hk => h2 q (mem_get.mpr ⟨k, hk⟩)⟩
    have h1 := List.pairwise_iff_getElem.mp h1
    obtain ⟨hi2, ei⟩ := List.getElem?_eq_some_iff.mp hi
    obtain ⟨hj2, ej⟩ := List.getElem?_eq_some_iff.mp hj
    rcases Nat.lt_trichotomy i j with c | c | c
    · have hne := h1 i j (by rw [List.length_map]; exact hi2) (by rw [List.length_map]; exact hj2) c
      rw [List.getElem_map, List.getElem_map, ei, ej] at hne
      exact absurd e hne
    · exact c
    · have hne := h1 j i (by rw [List.length_map]; exact hj2) (by rw [List.length_map]; exact hi2) c
      rw [List.getElem_map, List.getElem_map, ei, ej] at hne
      exact absurd e.symm hne
theorem va_D.perm {A : Nat → Prop} {w w' : va_W} (h : va_D A w) (p : w'.Perm w) : va_D A w' := by
  rw [va_D_iff] at h ⊢
  exact ⟨(p.map Prod.fst).nodup_iff.mpr h.1, fun q hq => h.2 q (p.subset hq)⟩
theorem va_A.perm {w w' : va_W} {sz q : Nat} (p : w'.Perm w) (h : va_A w' sz q) : va_A w sz q := by
  rcases h with ⟨k, e, hk⟩ | h
  · obtain ⟨j, hj⟩ := mem_get.mp (p.subset (mem_get.mpr ⟨k, hk⟩))
    exact Or.inl ⟨j, e, hj⟩
  · exact Or.inr h
theorem va_A.app {w1 w2 : va_W} {sz q : Nat} (h : va_A w1 sz q) : va_A (w1 ++ w2) sz q := by
  rcases h with ⟨k, e, hk⟩ | h
  · exact Or.inl ⟨k, e, by rw [List.getElem?_append_left (List.getElem?_eq_some_iff.mp hk).1]; exact hk⟩
  · exact Or.inr h
/-- behind a method: the rest as it was, its own as it left it -/
theorem cl_join {D : va_G} {W wc wr w1 : va_W} {H H1 : Heap} (hW : W.Perm (wc ++ wr)) (hP : va_P D vwCl W H) (hD : va_D (fun _ => True) W) (hk : ∀ q : Nat, q < H.size → ¬ va_A wc H.size q → H1[q]? = H[q]?) (hP1 : va_P D vwCl w1 H1) (hD1 : va_D (va_A wc H.size) w1) : va_P D vwCl (wr ++ w1) H1 ∧ va_D (va_A W H.size) (wr ++ w1) := by
  have hP' := hP.perm hW.symm
  have hD' := va_D_iff.mp (hD.perm hW.symm)
  have hnd := hD'.1
  rw [List.map_append, List.nodup_append] at hnd
  have hsub : ∀ q, va_A wc H.size q → va_A W H.size q := fun q h => (h.app (w2 := wr)).perm hW.symm
  have apart : ∀ q ∈ wr, q.1 < H.size ∧ ¬ va_A wc H.size q.1 := by
    intro q hq
    obtain ⟨k, hk⟩ := mem_get.mp (List.mem_append_right wc hq)
    have hl := (hP' k q hk).lt
    refine ⟨hl, fun h => ?_⟩
    rcases h with ⟨k2, e, h⟩ | h
    · exact hnd.2.2 q.1 (List.mem_map.mpr ⟨(q.1, e), mem_get.mpr ⟨k2, h⟩, rfl⟩) q.1 (List.mem_map.mpr ⟨q, hq, rfl⟩) rfl
    · omega
  refine ⟨va_P.app (fun k q hk2 => ?_) hP1, ?_⟩
  · have hq := mem_get.mpr ⟨k, hk2⟩
    obtain ⟨g1, g2⟩ := apart q hq
    obtain ⟨j, hj⟩ := mem_get.mp (List.mem_append_right wc hq)
    exact (hP' j q hj).kept (hk q.1 g1 g2)
  · have h1 := va_D_iff.mp hD1
    refine va_D_iff.mpr ⟨?_, fun q hq => ?_⟩
    · rw [List.map_append, List.nodup_append]
      refine ⟨hnd.2.1, h1.1, fun a ha b hb e => ?_⟩
      obtain ⟨q, hq, rfl⟩ := List.mem_map.mp ha
      obtain ⟨q2, hq2, rfl⟩ := List.mem_map.mp hb
      exact (apart q hq).2 (by rw [e]; exact h1.2 q2 hq2)
    · rcases List.mem_append.mp hq with c | c
      · obtain ⟨j, hj⟩ := mem_get.mp (hW.symm.subset (List.mem_append_right wc c))
        exact Or.inl ⟨j, q.2, hj⟩
      · exact hsub _ (h1.2 q c)
theorem clp_i {S : Type} {l : Launch} {y : MethodName} {wq : List Cond} {rm : Room} {av : List Value} {D : va_G} {tys : List (ClassId × FieldType)} {adK adV : Nat → Nat} {W wc wr : va_W} {sz mc ms : Nat} {post : Int32 → S → Prop} {wP : S → va_W} {post' : Int32 → va_W → Prop} (h : Met l y wq rm (va_Pc av (cB D tys wc sz)) (va_Qi post (fun u t => cE D (va_A wc sz) (wP u) t.heap) (va_A wc sz)) mc ms (va_A wc sz)) (hW : W.Perm (wc ++ wr)) (hq : ∀ r u, post r u → ∃ W' : va_W, post' r W' ∧ W'.Perm (wr ++ wP u)) : Met l y wq rm (va_Pc av (cBZ D tys adK adV W sz)) (va_Qi post' (fun W' t => cE D (va_A W sz) W' t.heap) (va_A W sz)) mc ms (va_A W sz) := by
  intro p e ha hf hk s m args below hfr happ hP hK
  obtain ⟨rfl, ⟨hsz, hPW, hKN, hDW⟩, hZ⟩ := hP
  have hDc := va_D_iff.mp (hDW.perm hW.symm)
  have hDc' : va_D (fun _ => True) wc := va_D_iff.mpr ⟨by have := hDc.1; rw [List.map_append, List.nodup_append] at this; exact this.1, fun _ _ => trivial⟩
  have hPc : va_P D vwCl wc s.heap := fun k q hk => hPW.perm hW.symm k q (by rw [List.getElem?_append_left (List.getElem?_eq_some_iff.mp hk).1]; exact hk)
  obtain ⟨n, o, h1, h2, h3, ⟨⟨r, u, ho, hpost, hPu, hDu⟩, hF⟩, L, hL, hLf⟩ := h p e ha hf hk s m _ below hfr happ ⟨rfl, hsz, hPc, hKN, hDc'⟩ hK
  have hsub : ∀ q, va_A wc sz q → va_A W sz q := fun q h => (h.app (w2 := wr)).perm hW.symm
  obtain ⟨W', hp', hperm⟩ := hq r u hpost
  subst hsz
  obtain ⟨hP2, hD2⟩ := cl_join hW hPW hDW (fun q h0 h9 => hF.2 q h0 h9) hPu hDu
  exact ⟨n, o, h1, h2, h3, ⟨⟨r, W', ho, hp', hP2.perm hperm, hD2.perm hperm⟩, hF.1, fun q hq hn => hF.2 q hq (fun h => hn (hsub q h))⟩, L, hL, fun q hq => hsub _ (hLf q hq)⟩
theorem clz_i {S : Type} {l : Launch} {y : MethodName} {wq : List Cond} {rm : Room} {av : List Value} {D : va_G} {tys : List (ClassId × FieldType)} {adK adV : Nat → Nat} {W wc wr : va_W} {sz mc ms : Nat} {post : Int32 → S → Prop} {wP : S → va_W} {post' : Int32 → va_W → Prop} (h : Met l y wq rm (va_Pc av (cBZ D tys adK adV wc sz)) (va_Qi post (fun u t => cE D (va_A wc sz) (wP u) t.heap) (va_A wc sz)) mc ms (va_A wc sz)) (hW : W.Perm (wc ++ wr)) (hq : ∀ r u, post r u → ∃ W' : va_W, post' r W' ∧ W'.Perm (wr ++ wP u)) : Met l y wq rm (va_Pc av (cBZ D tys adK adV W sz)) (va_Qi post' (fun W' t => cE D (va_A W sz) W' t.heap) (va_A W sz)) mc ms (va_A W sz) := by
  intro p e ha hf hk s m args below hfr happ hP hK
  obtain ⟨rfl, ⟨hsz, hPW, hKN, hDW⟩, hZ⟩ := hP
  have hDc := va_D_iff.mp (hDW.perm hW.symm)
  have hDc' : va_D (fun _ => True) wc := va_D_iff.mpr ⟨by have := hDc.1; rw [List.map_append, List.nodup_append] at this; exact this.1, fun _ _ => trivial⟩
  have hPc : va_P D vwCl wc s.heap := fun k q hk => hPW.perm hW.symm k q (by rw [List.getElem?_append_left (List.getElem?_eq_some_iff.mp hk).1]; exact hk)
  have hsub : ∀ q, va_A wc sz q → va_A W sz q := fun q h => (h.app (w2 := wr)).perm hW.symm
  have hZc : ZS adK adV (va_A wc sz) s s.heap := ⟨hZ.1.narrow hsub, hZ.2.1.narrow hsub, hZ.2.2.1.narrow hsub, hZ.2.2.2⟩
  obtain ⟨n, o, h1, h2, h3, ⟨⟨r, u, ho, hpost, hPu, hDu⟩, hF⟩, L, hL, hLf⟩ := h p e ha hf hk s m _ below hfr happ ⟨rfl, ⟨hsz, hPc, hKN, hDc'⟩, hZc⟩ hK
  obtain ⟨W', hp', hperm⟩ := hq r u hpost
  subst hsz
  obtain ⟨hP2, hD2⟩ := cl_join hW hPW hDW (fun q h0 h9 => hF.2 q h0 h9) hPu hDu
  exact ⟨n, o, h1, h2, h3, ⟨⟨r, W', ho, hp', hP2.perm hperm, hD2.perm hperm⟩, hF.1, fun q hq hn => hF.2 q hq (fun h => hn (hsub q h))⟩, L, hL, fun q hq => hsub _ (hLf q hq)⟩
/-- the model, as it stands between calls -/
def MF (A : Nat → Nat → Int32) (B : Nat → Nat → Int64) (N : Nat → Int32) (m_time : Int32) : Prop := (0 ≤ (N 0).toInt) ∧ ((N 0).toInt ≤ 1600) ∧ (0 ≤ (N 1).toInt) ∧ ((N 1).toInt ≤ 1600) ∧ (0 ≤ (N 8).toInt) ∧ ((N 8).toInt ≤ 1) ∧ (0 ≤ (N 9).toInt) ∧ ((N 9).toInt ≤ 1) ∧ (0 ≤ (N 21).toInt) ∧ ((N 21).toInt ≤ 40) ∧ (0 ≤ (N 22).toInt) ∧ ((N 22).toInt ≤ 40) ∧ (0 ≤ (N 23).toInt) ∧ ((N 23).toInt ≤ 6) ∧ (0 ≤ (N 24).toInt) ∧ ((N 24).toInt ≤ 30) ∧ (0 ≤ m_time.toInt) ∧ (m_time.toInt ≤ 100000) ∧ (In2 (A 2) 0 2 (0) (8)) ∧ (In2 (A 3) 0 2 (0) (6)) ∧ (In2 (A 4) 0 2 (0) (4)) ∧ (In2 (A 7) 0 2 (0) (100)) ∧ (In2 (A 8) 0 2 (0) (999)) ∧ (In2 (A 10) 0 12 (0) (7)) ∧ (In2 (A 18) 0 1 (0) (6)) ∧ (In2 (A 18) 1 7 (0) (7)) ∧ (In2 (A 18) 7 15 (0) (40)) ∧ (In2 (A 18) 15 23 (0) (40)) ∧ (In2 (A 18) 105 106 (-1) (7)) ∧ (In2 (A 18) 109 110 (0) (999)) ∧ (In2 (A 22) 0 6 (0) (7)) ∧ (In2 (A 24) 0 30 (0) (60)) ∧ (AI (A 18)) ∧ (NB ((A 2) (N 8).toNatClampNeg).toInt (A 18)) ∧ (WJ ((A 2) (N 8).toNatClampNeg).toInt ((N 21).toInt + (N 22).toInt) (A 20)) ∧ ((N 21).toInt + (N 22).toInt ≤ 40) ∧ (BX ((A 2) (N 8).toNatClampNeg).toInt (A 28) (A 29)) ∧ (P2 (A 3) (A 2) (A 10)) ∧ (CI (A 13) (A 11) (A 12))
theorem MF.l_m_taped {A : Nat → Nat → Int32} {B : Nat → Nat → Int64} {N : Nat → Int32} {m_time : Int32} (h : MF A B N m_time) : 0 ≤ (N 0).toInt := h.1
theorem MF.u_m_taped {A : Nat → Nat → Int32} {B : Nat → Nat → Int64} {N : Nat → Int32} {m_time : Int32} (h : MF A B N m_time) : (N 0).toInt ≤ 1600 := h.2.1
theorem MF.l_m_size {A : Nat → Nat → Int32} {B : Nat → Nat → Int64} {N : Nat → Int32} {m_time : Int32} (h : MF A B N m_time) : 0 ≤ (N 1).toInt := h.2.2.1
theorem MF.u_m_size {A : Nat → Nat → Int32} {B : Nat → Nat → Int64} {N : Nat → Int32} {m_time : Int32} (h : MF A B N m_time) : (N 1).toInt ≤ 1600 := h.2.2.2.1
theorem MF.l_m_bank {A : Nat → Nat → Int32} {B : Nat → Nat → Int64} {N : Nat → Int32} {m_time : Int32} (h : MF A B N m_time) : 0 ≤ (N 8).toInt := h.2.2.2.2.1
theorem MF.u_m_bank {A : Nat → Nat → Int32} {B : Nat → Nat → Int64} {N : Nat → Int32} {m_time : Int32} (h : MF A B N m_time) : (N 8).toInt ≤ 1 := h.2.2.2.2.2.1
theorem MF.l_m_rb {A : Nat → Nat → Int32} {B : Nat → Nat → Int64} {N : Nat → Int32} {m_time : Int32} (h : MF A B N m_time) : 0 ≤ (N 9).toInt := h.2.2.2.2.2.2.1
theorem MF.u_m_rb {A : Nat → Nat → Int32} {B : Nat → Nat → Int64} {N : Nat → Int32} {m_time : Int32} (h : MF A B N m_time) : (N 9).toInt ≤ 1 := h.2.2.2.2.2.2.2.1
theorem MF.l_m_acts {A : Nat → Nat → Int32} {B : Nat → Nat → Int64} {N : Nat → Int32} {m_time : Int32} (h : MF A B N m_time) : 0 ≤ (N 21).toInt := h.2.2.2.2.2.2.2.2.1
theorem MF.u_m_acts {A : Nat → Nat → Int32} {B : Nat → Nat → Int64} {N : Nat → Int32} {m_time : Int32} (h : MF A B N m_time) : (N 21).toInt ≤ 40 := h.2.2.2.2.2.2.2.2.2.1
theorem MF.l_m_undone {A : Nat → Nat → Int32} {B : Nat → Nat → Int64} {N : Nat → Int32} {m_time : Int32} (h : MF A B N m_time) : 0 ≤ (N 22).toInt := h.2.2.2.2.2.2.2.2.2.2.1
theorem MF.u_m_undone {A : Nat → Nat → Int32} {B : Nat → Nat → Int64} {N : Nat → Int32} {m_time : Int32} (h : MF A B N m_time) : (N 22).toInt ≤ 40 := h.2.2.2.2.2.2.2.2.2.2.2.1
theorem MF.l_m_laid {A : Nat → Nat → Int32} {B : Nat → Nat → Int64} {N : Nat → Int32} {m_time : Int32} (h : MF A B N m_time) : 0 ≤ (N 23).toInt := h.2.2.2.2.2.2.2.2.2.2.2.2.1
theorem MF.u_m_laid {A : Nat → Nat → Int32} {B : Nat → Nat → Int64} {N : Nat → Int32} {m_time : Int32} (h : MF A B N m_time) : (N 23).toInt ≤ 6 := h.2.2.2.2.2.2.2.2.2.2.2.2.2.1
theorem MF.l_m_seens {A : Nat → Nat → Int32} {B : Nat → Nat → Int64} {N : Nat → Int32} {m_time : Int32} (h : MF A B N m_time) : 0 ≤ (N 24).toInt := h.2.2.2.2.2.2.2.2.2.2.2.2.2.2.1
theorem MF.u_m_seens {A : Nat → Nat → Int32} {B : Nat → Nat → Int64} {N : Nat → Int32} {m_time : Int32} (h : MF A B N m_time) : (N 24).toInt ≤ 30 := h.2.2.2.2.2.2.2.2.2.2.2.2.2.2.2.1
theorem MF.l_m_time {A : Nat → Nat → Int32} {B : Nat → Nat → Int64} {N : Nat → Int32} {m_time : Int32} (h : MF A B N m_time) : 0 ≤ m_time.toInt := h.2.2.2.2.2.2.2.2.2.2.2.2.2.2.2.2.1
theorem MF.u_m_time {A : Nat → Nat → Int32} {B : Nat → Nat → Int64} {N : Nat → Int32} {m_time : Int32} (h : MF A B N m_time) : m_time.toInt ≤ 100000 := h.2.2.2.2.2.2.2.2.2.2.2.2.2.2.2.2.2.1
theorem MF.i0_m_nodes {A : Nat → Nat → Int32} {B : Nat → Nat → Int64} {N : Nat → Int32} {m_time : Int32} (h : MF A B N m_time) : In2 (A 2) 0 2 (0) (8) := h.2.2.2.2.2.2.2.2.2.2.2.2.2.2.2.2.2.2.1
theorem MF.i0_m_members {A : Nat → Nat → Int32} {B : Nat → Nat → Int64} {N : Nat → Int32} {m_time : Int32} (h : MF A B N m_time) : In2 (A 3) 0 2 (0) (6) := h.2.2.2.2.2.2.2.2.2.2.2.2.2.2.2.2.2.2.2.1
theorem MF.i0_m_keys {A : Nat → Nat → Int32} {B : Nat → Nat → Int64} {N : Nat → Int32} {m_time : Int32} (h : MF A B N m_time) : In2 (A 4) 0 2 (0) (4) := h.2.2.2.2.2.2.2.2.2.2.2.2.2.2.2.2.2.2.2.2.1
theorem MF.i0_m_loss {A : Nat → Nat → Int32} {B : Nat → Nat → Int64} {N : Nat → Int32} {m_time : Int32} (h : MF A B N m_time) : In2 (A 7) 0 2 (0) (100) := h.2.2.2.2.2.2.2.2.2.2.2.2.2.2.2.2.2.2.2.2.2.1
theorem MF.i0_m_draw {A : Nat → Nat → Int32} {B : Nat → Nat → Int64} {N : Nat → Int32} {m_time : Int32} (h : MF A B N m_time) : In2 (A 8) 0 2 (0) (999) := h.2.2.2.2.2.2.2.2.2.2.2.2.2.2.2.2.2.2.2.2.2.2.1
theorem MF.i0_m_memberTold {A : Nat → Nat → Int32} {B : Nat → Nat → Int64} {N : Nat → Int32} {m_time : Int32} (h : MF A B N m_time) : In2 (A 10) 0 12 (0) (7) := h.2.2.2.2.2.2.2.2.2.2.2.2.2.2.2.2.2.2.2.2.2.2.2.1
theorem MF.i0_m_all {A : Nat → Nat → Int32} {B : Nat → Nat → Int64} {N : Nat → Int32} {m_time : Int32} (h : MF A B N m_time) : In2 (A 18) 0 1 (0) (6) := h.2.2.2.2.2.2.2.2.2.2.2.2.2.2.2.2.2.2.2.2.2.2.2.2.1
theorem MF.i1_m_all {A : Nat → Nat → Int32} {B : Nat → Nat → Int64} {N : Nat → Int32} {m_time : Int32} (h : MF A B N m_time) : In2 (A 18) 1 7 (0) (7) := h.2.2.2.2.2.2.2.2.2.2.2.2.2.2.2.2.2.2.2.2.2.2.2.2.2.1
theorem MF.i2_m_all {A : Nat → Nat → Int32} {B : Nat → Nat → Int64} {N : Nat → Int32} {m_time : Int32} (h : MF A B N m_time) : In2 (A 18) 7 15 (0) (40) := h.2.2.2.2.2.2.2.2.2.2.2.2.2.2.2.2.2.2.2.2.2.2.2.2.2.2.1
theorem MF.i3_m_all {A : Nat → Nat → Int32} {B : Nat → Nat → Int64} {N : Nat → Int32} {m_time : Int32} (h : MF A B N m_time) : In2 (A 18) 15 23 (0) (40) := h.2.2.2.2.2.2.2.2.2.2.2.2.2.2.2.2.2.2.2.2.2.2.2.2.2.2.2.1
theorem MF.i4_m_all {A : Nat → Nat → Int32} {B : Nat → Nat → Int64} {N : Nat → Int32} {m_time : Int32} (h : MF A B N m_time) : In2 (A 18) 105 106 (-1) (7) := h.2.2.2.2.2.2.2.2.2.2.2.2.2.2.2.2.2.2.2.2.2.2.2.2.2.2.2.2.1
theorem MF.i5_m_all {A : Nat → Nat → Int32} {B : Nat → Nat → Int64} {N : Nat → Int32} {m_time : Int32} (h : MF A B N m_time) : In2 (A 18) 109 110 (0) (999) := h.2.2.2.2.2.2.2.2.2.2.2.2.2.2.2.2.2.2.2.2.2.2.2.2.2.2.2.2.2.1
theorem MF.i0_m_trial {A : Nat → Nat → Int32} {B : Nat → Nat → Int64} {N : Nat → Int32} {m_time : Int32} (h : MF A B N m_time) : In2 (A 22) 0 6 (0) (7) := h.2.2.2.2.2.2.2.2.2.2.2.2.2.2.2.2.2.2.2.2.2.2.2.2.2.2.2.2.2.2.1
theorem MF.i0_m_sTicks {A : Nat → Nat → Int32} {B : Nat → Nat → Int64} {N : Nat → Int32} {m_time : Int32} (h : MF A B N m_time) : In2 (A 24) 0 30 (0) (60) := h.2.2.2.2.2.2.2.2.2.2.2.2.2.2.2.2.2.2.2.2.2.2.2.2.2.2.2.2.2.2.2.1
theorem MF.v0_m_ {A : Nat → Nat → Int32} {B : Nat → Nat → Int64} {N : Nat → Int32} {m_time : Int32} (h : MF A B N m_time) : AI (A 18) := h.2.2.2.2.2.2.2.2.2.2.2.2.2.2.2.2.2.2.2.2.2.2.2.2.2.2.2.2.2.2.2.2.1
theorem MF.hNB {A : Nat → Nat → Int32} {B : Nat → Nat → Int64} {N : Nat → Int32} {m_time : Int32} (h : MF A B N m_time) : NB ((A 2) (N 8).toNatClampNeg).toInt (A 18) := h.2.2.2.2.2.2.2.2.2.2.2.2.2.2.2.2.2.2.2.2.2.2.2.2.2.2.2.2.2.2.2.2.2.1
theorem MF.hW {A : Nat → Nat → Int32} {B : Nat → Nat → Int64} {N : Nat → Int32} {m_time : Int32} (h : MF A B N m_time) : WJ ((A 2) (N 8).toNatClampNeg).toInt ((N 21).toInt + (N 22).toInt) (A 20) := h.2.2.2.2.2.2.2.2.2.2.2.2.2.2.2.2.2.2.2.2.2.2.2.2.2.2.2.2.2.2.2.2.2.2.1
theorem MF.hau {A : Nat → Nat → Int32} {B : Nat → Nat → Int64} {N : Nat → Int32} {m_time : Int32} (h : MF A B N m_time) : (N 21).toInt + (N 22).toInt ≤ 40 := h.2.2.2.2.2.2.2.2.2.2.2.2.2.2.2.2.2.2.2.2.2.2.2.2.2.2.2.2.2.2.2.2.2.2.2.1
theorem MF.hBX {A : Nat → Nat → Int32} {B : Nat → Nat → Int64} {N : Nat → Int32} {m_time : Int32} (h : MF A B N m_time) : BX ((A 2) (N 8).toNatClampNeg).toInt (A 28) (A 29) := h.2.2.2.2.2.2.2.2.2.2.2.2.2.2.2.2.2.2.2.2.2.2.2.2.2.2.2.2.2.2.2.2.2.2.2.2.1
theorem MF.hP2 {A : Nat → Nat → Int32} {B : Nat → Nat → Int64} {N : Nat → Int32} {m_time : Int32} (h : MF A B N m_time) : P2 (A 3) (A 2) (A 10) := h.2.2.2.2.2.2.2.2.2.2.2.2.2.2.2.2.2.2.2.2.2.2.2.2.2.2.2.2.2.2.2.2.2.2.2.2.2.1
theorem MF.hCI {A : Nat → Nat → Int32} {B : Nat → Nat → Int64} {N : Nat → Int32} {m_time : Int32} (h : MF A B N m_time) : CI (A 13) (A 11) (A 12) := h.2.2.2.2.2.2.2.2.2.2.2.2.2.2.2.2.2.2.2.2.2.2.2.2.2.2.2.2.2.2.2.2.2.2.2.2.2.2
theorem MF.mk9 {A : Nat → Nat → Int32} {B : Nat → Nat → Int64} {N : Nat → Int32} {m_time : Int32} (h0 : 0 ≤ (N 0).toInt) (h1 : (N 0).toInt ≤ 1600) (h2 : 0 ≤ (N 1).toInt) (h3 : (N 1).toInt ≤ 1600) (h4 : 0 ≤ (N 8).toInt) (h5 : (N 8).toInt ≤ 1) (h6 : 0 ≤ (N 9).toInt) (h7 : (N 9).toInt ≤ 1) (h8 : 0 ≤ (N 21).toInt) (h9 : (N 21).toInt ≤ 40) (h10 : 0 ≤ (N 22).toInt) (h11 : (N 22).toInt ≤ 40) (h12 : 0 ≤ (N 23).toInt) (h13 : (N 23).toInt ≤ 6) (h14 : 0 ≤ (N 24).toInt) (h15 : (N 24).toInt ≤ 30) (h16 : 0 ≤ m_time.toInt) (h17 : m_time.toInt ≤ 100000) (h18 : In2 (A 2) 0 2 (0) (8)) (h19 : In2 (A 3) 0 2 (0) (6)) (h20 : In2 (A 4) 0 2 (0) (4)) (h21 : In2 (A 7) 0 2 (0) (100)) (h22 : In2 (A 8) 0 2 (0) (999)) (h23 : In2 (A 10) 0 12 (0) (7)) (h24 : In2 (A 18) 0 1 (0) (6)) (h25 : In2 (A 18) 1 7 (0) (7)) (h26 : In2 (A 18) 7 15 (0) (40)) (h27 : In2 (A 18) 15 23 (0) (40)) (h28 : In2 (A 18) 105 106 (-1) (7)) (h29 : In2 (A 18) 109 110 (0) (999)) (h30 : In2 (A 22) 0 6 (0) (7)) (h31 : In2 (A 24) 0 30 (0) (60)) (h32 : AI (A 18)) (h33 : NB ((A 2) (N 8).toNatClampNeg).toInt (A 18)) (h34 : WJ ((A 2) (N 8).toNatClampNeg).toInt ((N 21).toInt + (N 22).toInt) (A 20)) (h35 : (N 21).toInt + (N 22).toInt ≤ 40) (h36 : BX ((A 2) (N 8).toNatClampNeg).toInt (A 28) (A 29)) (h37 : P2 (A 3) (A 2) (A 10)) (h38 : CI (A 13) (A 11) (A 12)) : MF A B N m_time := ⟨h0, h1, h2, h3, h4, h5, h6, h7, h8, h9, h10, h11, h12, h13, h14, h15, h16, h17, h18, h19, h20, h21, h22, h23, h24, h25, h26, h27, h28, h29, h30, h31, h32, h33, h34, h35, h36, h37, h38⟩
def MI (cyB cyI cyJ cyZ cyO : ClassId) (hM : Nat) (m_time : Int32) (W : va_W) : Prop := ∃ (md : Nat → Nat) (A : Nat → Nat → Int32) (B : Nat → Nat → Int64) (N : Nat → Int32) (m_name : Int64), MF A B N m_time ∧ W = [(hM, .inr (7, [.ref (md 0), .ref (md 1), .int (N 0), .int (N 1), .int (N 2), .int (N 3), .int (N 4), .int (N 5), .int (N 6), .int (N 7), .long m_name, .ref (md 11), .ref (md 12), .ref (md 13), .ref (md 14), .ref (md 15), .ref (md 16), .ref (md 17), .ref (md 18), .ref (md 19), .ref (md 20), .ref (md 21), .ref (md 22), .ref (md 23), .ref (md 24), .ref (md 25), .ref (md 26), .ref (md 27), .ref (md 28), .int (N 8), .int (N 9), .int (N 10), .int (N 11), .int (N 12), .int (N 13), .int (N 14), .int (N 15), .int (N 16), .int (N 17), .int (N 18), .ref (md 40), .ref (md 41), .int (N 19), .int (N 20), .ref (md 44), .int (N 21), .int (N 22), .ref (md 47), .ref (md 48), .int (N 23), .ref (md 50), .ref (md 51), .ref (md 52), .ref (md 53), .ref (md 54), .int (N 24), .int m_time, .ref (md 57), .ref (md 58)])), (md 0, .inl (cyB, 1620, .inl (A 0))), (md 1, .inl (cyB, 1600, .inl (A 1))), (md 11, .inl (cyI, 2, .inl (A 2))), (md 12, .inl (cyI, 2, .inl (A 3))), (md 13, .inl (cyI, 2, .inl (A 4))), (md 14, .inl (cyI, 2, .inl (A 5))), (md 15, .inl (cyI, 2, .inl (A 6))), (md 16, .inl (cyI, 2, .inl (A 7))), (md 17, .inl (cyI, 2, .inl (A 8))), (md 18, .inl (cyI, 2, .inl (A 9))), (md 19, .inl (cyI, 12, .inl (A 10))), (md 20, .inl (cyI, 2, .inl (A 11))), (md 21, .inl (cyI, 2, .inl (A 12))), (md 22, .inl (cyJ, 16, .inr (.inl (B 0)))), (md 23, .inl (cyJ, 8, .inr (.inl (B 1)))), (md 24, .inl (cyI, 1120, .inl (A 13))), (md 25, .inl (cyI, 1120, .inl (A 14))), (md 26, .inl (cyI, 90, .inl (A 15))), (md 27, .inl (cyI, 90, .inl (A 16))), (md 28, .inl (cyI, 60, .inl (A 17))), (md 40, .inl (cyI, 520, .inl (A 18))), (md 41, .inl (cyI, 520, .inl (A 19))), (md 44, .inl (cyI, 21320, .inl (A 20))), (md 47, .inl (cyI, 6, .inl (A 21))), (md 48, .inl (cyI, 6, .inl (A 22))), (md 50, .inl (cyI, 427, .inl (A 23))), (md 51, .inl (cyI, 30, .inl (A 24))), (md 52, .inl (cyI, 30, .inl (A 25))), (md 53, .inl (cyI, 30, .inl (A 26))), (md 54, .inl (cyI, 30, .inl (A 27))), (md 57, .inl (cyI, 1560, .inl (A 28))), (md 58, .inl (cyZ, 3, .inl (A 29)))]
