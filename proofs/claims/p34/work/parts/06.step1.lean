/-! ===== the world, the frame's context, one step ===== -/
def zFl (ad : Nat → Nat) (f : Nat → Int32) (ci : Nat) (dat : List Nat) : List Value := (List.range dat.length).map fun j => if ft ci j ≤ 1 then .int (f j) else if ft ci j ≤ 3 then .int (Int32.ofNat (dat.getD j 0)) else if dat.getD j 0 = 0 then .null else .ref (ad (dat.getD j 0 - 1))
def zE (ad : Nat → Nat) (cA : Nat → ClassId) (F : Nat → Nat → Int32) (a : Nat) (q : Nat × List Nat) : va_E := if q.1 ≤ 1 then .inl (cA a, q.2.getD 0 0, .inl (F a)) else .inr (q.1 - 2, zFl ad (F a) (q.1 - 2) q.2)
def zWf (q : Nat × List Nat) (n : Nat) : Prop := (q.1 ≤ 1 ∧ q.2.getD 0 0 < 2147483648) ∨ (2 ≤ q.1 ∧ q.1 - 2 < 13 ∧ q.2.length = nf (q.1 - 2) ∧ ∀ j, j < q.2.length → (ft (q.1 - 2) j ≤ 3 → q.2.getD j 0 < 2147483648) ∧ (4 ≤ ft (q.1 - 2) j → q.2.getD j 0 ≤ n))
def zWo (D : va_G) (base b : Nat) (xs : Nat → Int32) (ad : Nat → Nat) (cA : Nat → ClassId) (F : Nat → Nat → Int32) (S : zS) (I : zM) (U : State) (H : Heap) : Prop :=
  ∃ (tys : List (ClassId × FieldType)) (ws : va_W), va_K D vwCl tys U ∧ va_P D vwCl ws H ∧ va_D (fun q => base ≤ q) ws ∧ base ≤ H.size ∧ b < base ∧ va_X b S.2.1 xs U H ∧ S.2.1 < 2147483648 ∧ (∀ j : Nat, j < S.2.1 → S.2.2 j = (xs j).toInt) ∧
    ws.length = S.1.length ∧ (∀ (a : Nat) (q : Nat × List Nat), S.1[a]? = some q → ws[a]? = some (ad a, zE ad cA F a q) ∧ zWf q S.1.length ∧ (q.1 = 0 → ∃ t : Nat, tys[t]? = some (cA a, .int)) ∧ (q.1 = 1 → ∃ t : Nat, tys[t]? = some (cA a, .boolean))) ∧ (∀ a (j : Nat), a < S.1.length → I a j = (F a j).toInt) ∧ (∀ r ∈ zlk_l, r.2.2.1 = 1 → va_Nw (zlc r) U)
def zCx (k : Nat) (R : Room) (p : Program) (s : State) (m : MethodId) (args : Array Value) (meth : Method) (c : Code) : Prop := p.tables.exec = Jvm.exec ∧ c.code = bk k ∧ c.maxLocals = lk k ∧ s.vm.findClass (cn (ok k)) = some m.cls ∧ (∀ w ∈ zgw, w.before args s = true) ∧ R.frames = fk k ∧ R.locals = ck k ∧ (ik k = 2 → meth.name = "<init>")
def zsl (S : zS) : Nat := (S.1.map (fun q => if q.1 ≤ 1 then q.2.getD 0 0 else q.2.length)).sum
def zK (D : va_G) (base b : Nat) (xs : Nat → Int32) (k : Nat) (p : Program) (l : Launch) (e : Env) (R : Room) (s : State) (m : MethodId) (args : Array Value) (below : List Frame) (meth : Method) (c : Code) (Q : State → Prop) (S S' : zS) (I' : zM) (ad : Nat → Nat) (cells slots pc' : Nat) (ml' mst' : List zV) : Prop :=
  ∀ (ad' : Nat → Nat) (cA' : Nat → ClassId) (F' : Nat → Nat → Int32) (H' : Heap) (locs' : List Loc) (ls' : Array Slot) (st' : List Value), zWo D base b xs ad' cA' F' S' I' s H' → va_S (fun q => base ≤ q) s.heap H' locs' → zLr b ad' S'.1.length (lk k) (hk k) ls' ml' → zSr b ad' S'.1.length mst' st' → (∀ a, a < S.1.length → ad' a = ad a) →
    W p l e R s m args below meth c H' locs' (cells + (S'.1.length - S.1.length)) (slots + (zsl S' - zsl S)) Q (F0 m pc' ls' st')
section ZN
variable {D : va_G} {base b : Nat} {xs : Nat → Int32} {k : Nat} {p : Program} {l : Launch} {e : Env} {R : Room} {s : State} {m : MethodId} {args : Array Value} {below : List Frame} {meth : Method} {c : Code} {Q : State → Prop} {S : zS} {I : zM} {ad : Nat → Nat} {cA : Nat → ClassId} {F : Nat → Nat → Int32} {H : Heap} {locs : List Loc} {cells slots pc : Nat} {ml mst : List zV} {ls : Array Slot} {st : List Value}
theorem zK.go {pc' : Nat} {ml' mst' : List zV} {ls' : Array Slot} {st' : List Value} (h : zK D base b xs k p l e R s m args below meth c Q S S I ad cells slots pc' ml' mst') (W0 : zWo D base b xs ad cA F S I s H) (hS : va_S (fun q => base ≤ q) s.heap H locs) (hL : zLr b ad S.1.length (lk k) (hk k) ls' ml') (hT : zSr b ad S.1.length mst' st') : W p l e R s m args below meth c H locs cells slots Q (F0 m pc' ls' st') := by
  have h1 := h ad cA F H locs ls' st' W0 hS hL hT (fun _ _ => rfl)
  simpa using h1
theorem zSr_i {x : Int} {r : List zV} {n : Nat} (h : zSr b ad n (.inl x :: r) st) : ∃ (i : Int32) (q : List Value), st = .int i :: q ∧ i.toInt = x ∧ zSr b ad n r q := by
  obtain ⟨w, q, rfl, ⟨i, rfl, h1⟩, h2⟩ := zSr_c h
  exact ⟨i, q, rfl, h1, h2⟩
theorem zSr_j {x : Int} {r : List zV} {n : Nat} (h : zSr b ad n (.inr (.inr (.inl x)) :: r) st) : ∃ (i : Int64) (q : List Value), st = .long i :: q ∧ i.toInt = x ∧ zSr b ad n r q := by
  obtain ⟨w, q, rfl, ⟨i, rfl, h1⟩, h2⟩ := zSr_c h
  exact ⟨i, q, rfl, h1, h2⟩
theorem zSr_r {a : Nat} {r : List zV} {n : Nat} (h : zSr b ad n (.inr (.inl a) :: r) st) : ∃ (q : List Value), st = .ref (ad a) :: q ∧ a < n ∧ zSr b ad n r q := by
  obtain ⟨w, q, rfl, ⟨rfl, h1⟩, h2⟩ := zSr_c h
  exact ⟨q, rfl, h1, h2⟩
theorem zSr_x {r : List zV} {n : Nat} (h : zSr b ad n (.inr (.inr (.inr true)) :: r) st) : ∃ (q : List Value), st = .ref b :: q ∧ zSr b ad n r q := by
  obtain ⟨w, q, rfl, h1, h2⟩ := zSr_c h
  have h1 : w = .ref b := h1
  subst h1
  exact ⟨q, rfl, h2⟩
theorem zLr_i {i : Nat} {x : Int} {n nL : Nat} {hl : Bool} (h : zLr b ad n nL hl ls ml) (hi : ml[i]? = some (.inl x)) : ∃ w : Int32, ls[i]? = some (.val (.int w)) ∧ w.toInt = x := by
  rcases h.2.2.2.2 i _ hi with h | ⟨w, hw, ⟨i, rfl, h2⟩⟩
  · cases h
  · exact ⟨i, hw, h2⟩
theorem zLr_j {i : Nat} {x : Int} {n nL : Nat} {hl : Bool} (h : zLr b ad n nL hl ls ml) (hi : ml[i]? = some (.inr (.inr (.inl x)))) : ∃ w : Int64, ls[i]? = some (.val (.long w)) ∧ w.toInt = x := by
  rcases h.2.2.2.2 i _ hi with h | ⟨w, hw, ⟨i, rfl, h2⟩⟩
  · cases h
  · exact ⟨i, hw, h2⟩
theorem zLr_r {i a : Nat} {n nL : Nat} {hl : Bool} (h : zLr b ad n nL hl ls ml) (hi : ml[i]? = some (.inr (.inl a))) : ls[i]? = some (.val (.ref (ad a))) ∧ a < n := by
  rcases h.2.2.2.2 i _ hi with h | ⟨w, hw, ⟨rfl, h2⟩⟩
  · cases h
  · exact ⟨hw, h2⟩
theorem zLr_x {i : Nat} {n nL : Nat} {hl : Bool} (h : zLr b ad n nL hl ls ml) (hi : ml[i]? = some (.inr (.inr (.inr true)))) : ls[i]? = some (.val (.ref b)) := by
  rcases h.2.2.2.2 i _ hi with h | ⟨w, hw, h2⟩
  · cases h
  · have h2 : w = .ref b := h2
    subst h2
    exact hw
theorem zfd_of {c cp ci j : Nat} (h : fd c cp = some (ci, j)) : ∃ i : Nat, lw_tbl[i]? = some (Cond.fieldLink (cn c) cp (cT ci j).1 (cT ci j).2.1 (cT ci j).2.2.1) ∧ ci < 13 ∧ j < cN ci := by
  unfold fd at h
  cases hf : zfd_l.find? (fun r => r.1 == c && r.2.1 == cp) with
  | none => rw [hf] at h; cases h
  | some r =>
    rw [hf] at h
    cases h
    have h1 := List.find?_some hf
    have h2 := zt_fld r (List.mem_of_find?_eq_some hf)
    simp only [Bool.and_eq_true, beq_iff_eq] at h1
    rw [← h1.1, ← h1.2]
    exact ⟨_, h2⟩
theorem znw_of {c cp ci : Nat} (h : nw c cp = some ci) : ∃ i : Nat, lw_tbl[i]? = some (Cond.classLink (cn c) cp (cR ci)) ∧ ci < 13 := by
  unfold nw at h
  cases hf : znw_l.find? (fun r => r.1 == c && r.2.1 == cp) with
  | none => rw [hf] at h; cases h
  | some r =>
    rw [hf] at h
    cases h
    have h1 := List.find?_some hf
    have h2 := zt_new r (List.mem_of_find?_eq_some hf)
    simp only [Bool.and_eq_true, beq_iff_eq] at h1
    rw [← h1.1, ← h1.2]
    exact ⟨_, h2⟩
theorem zki_of {c cp : Nat} {v : Int} (h : ki c cp = some v) : ∃ i : Nat, lw_tbl[i]? = some (Cond.constant (cn c) cp (Int32.ofInt v)) ∧ rg v := by
  unfold ki at h
  cases hf : zci_l.find? (fun r => r.1 == c && r.2.1 == cp) with
  | none => rw [hf] at h; cases h
  | some r =>
    rw [hf] at h
    cases h
    have h1 := List.find?_some hf
    have h2 := zt_ci r (List.mem_of_find?_eq_some hf)
    simp only [Bool.and_eq_true, beq_iff_eq] at h1
    rw [← h1.1, ← h1.2]
    exact ⟨_, h2⟩
theorem zkj_of {c cp : Nat} {v : Int} (h : kj c cp = some v) : ∃ i : Nat, lw_tbl[i]? = some (Cond.constantLong (cn c) cp (Int64.ofInt v)) ∧ rgl v := by
  unfold kj at h
  cases hf : zcj_l.find? (fun r => r.1 == c && r.2.1 == cp) with
  | none => rw [hf] at h; cases h
  | some r =>
    rw [hf] at h
    cases h
    have h1 := List.find?_some hf
    have h2 := zt_cj r (List.mem_of_find?_eq_some hf)
    simp only [Bool.and_eq_true, beq_iff_eq] at h1
    rw [← h1.1, ← h1.2]
    exact ⟨_, h2⟩
theorem zlkk_of {c cp q k' : Nat} (h : lkk c cp = some (q, k')) : ∃ r ∈ zlk_l, r.1 = c ∧ r.2.1 = cp ∧ r.2.2.1 = q ∧ r.2.2.2.1 = k' ∧ zlc r ∈ lw_tbl ∧ k' < 13 := by
  unfold lkk at h
  cases hf : zlk_l.find? (fun r => r.1 == c && r.2.1 == cp) with
  | none => rw [hf] at h; cases h
  | some r =>
    rw [hf] at h
    cases h
    have h1 := List.find?_some hf
    have h2 := zt_link r (List.mem_of_find?_eq_some hf)
    simp only [Bool.and_eq_true, beq_iff_eq] at h1
    exact ⟨r, List.mem_of_find?_eq_some hf, h1.1, h1.2, rfl, rfl, List.mem_of_getElem? h2.1, h2.2⟩
theorem zn_iconst {n : Int} {len pc' : Nat} {ml' mst' : List zV} {S' : zS} {I' : zM} (Cx : zCx k R p s m args meth c) (hbs : base ≤ s.heap.size) (hdg : decode (bk k) pc = .ok (.iconst n, len)) (h : sti k pc ml mst S I len (.iconst n) = some (.inl (pc', ml', mst', S', I'))) (W0 : zWo D base b xs ad cA F S I s H) (hS : va_S (fun q => base ≤ q) s.heap H locs) (hL : zLr b ad S.1.length (lk k) (hk k) ls ml) (hT : zSr b ad S.1.length mst st) (hc : cells + (S'.1.length - S.1.length) ≤ R.cells) (hs : slots + (zsl S' - zsl S) ≤ R.slots)
    (kk : zK D base b xs k p l e R s m args below meth c Q S S' I' ad cells slots pc' ml' mst') : W p l e R s m args below meth c H locs cells slots Q (F0 m pc ls st) := by
  obtain ⟨hx, hb, hml, hown, hts, hRf, hRl, hni⟩ := Cx
  simp only [sti] at h
  split at h
  · rename_i h0
    obtain ⟨rfl, hr⟩ := h0
    simp only [nx, Option.some.injEq, Sum.inl.injEq, Prod.mk.injEq] at h
    obtain ⟨rfl, rfl, rfl, rfl, rfl⟩ := h
    exact lv_iconst hx hb hdg rfl (kk.go W0 hS hL ⟨⟨_, rfl, zi_of hr⟩, hT⟩)
  · cases h
theorem zn_bipush {n : Int} {len pc' : Nat} {ml' mst' : List zV} {S' : zS} {I' : zM} (Cx : zCx k R p s m args meth c) (hbs : base ≤ s.heap.size) (hdg : decode (bk k) pc = .ok (.bipush n, len)) (h : sti k pc ml mst S I len (.bipush n) = some (.inl (pc', ml', mst', S', I'))) (W0 : zWo D base b xs ad cA F S I s H) (hS : va_S (fun q => base ≤ q) s.heap H locs) (hL : zLr b ad S.1.length (lk k) (hk k) ls ml) (hT : zSr b ad S.1.length mst st) (hc : cells + (S'.1.length - S.1.length) ≤ R.cells) (hs : slots + (zsl S' - zsl S) ≤ R.slots)
    (kk : zK D base b xs k p l e R s m args below meth c Q S S' I' ad cells slots pc' ml' mst') : W p l e R s m args below meth c H locs cells slots Q (F0 m pc ls st) := by
  obtain ⟨hx, hb, hml, hown, hts, hRf, hRl, hni⟩ := Cx
  simp only [sti] at h
  split at h
  · rename_i h0
    obtain ⟨rfl, hr⟩ := h0
    simp only [nx, Option.some.injEq, Sum.inl.injEq, Prod.mk.injEq] at h
    obtain ⟨rfl, rfl, rfl, rfl, rfl⟩ := h
    exact lv_bipush hx hb hdg rfl (kk.go W0 hS hL ⟨⟨_, rfl, zi_8 hr.1 hr.2⟩, hT⟩)
  · cases h
theorem zn_sipush {n : Int} {len pc' : Nat} {ml' mst' : List zV} {S' : zS} {I' : zM} (Cx : zCx k R p s m args meth c) (hbs : base ≤ s.heap.size) (hdg : decode (bk k) pc = .ok (.sipush n, len)) (h : sti k pc ml mst S I len (.sipush n) = some (.inl (pc', ml', mst', S', I'))) (W0 : zWo D base b xs ad cA F S I s H) (hS : va_S (fun q => base ≤ q) s.heap H locs) (hL : zLr b ad S.1.length (lk k) (hk k) ls ml) (hT : zSr b ad S.1.length mst st) (hc : cells + (S'.1.length - S.1.length) ≤ R.cells) (hs : slots + (zsl S' - zsl S) ≤ R.slots)
    (kk : zK D base b xs k p l e R s m args below meth c Q S S' I' ad cells slots pc' ml' mst') : W p l e R s m args below meth c H locs cells slots Q (F0 m pc ls st) := by
  obtain ⟨hx, hb, hml, hown, hts, hRf, hRl, hni⟩ := Cx
  simp only [sti] at h
  split at h
  · rename_i h0
    obtain ⟨rfl, hr⟩ := h0
    simp only [nx, Option.some.injEq, Sum.inl.injEq, Prod.mk.injEq] at h
    obtain ⟨rfl, rfl, rfl, rfl, rfl⟩ := h
    exact lv_sipush hx hb hdg rfl (kk.go W0 hS hL ⟨⟨_, rfl, zi_16 hr.1 hr.2⟩, hT⟩)
  · cases h
theorem zn_lconst {n : Fin 2} {len pc' : Nat} {ml' mst' : List zV} {S' : zS} {I' : zM} (Cx : zCx k R p s m args meth c) (hbs : base ≤ s.heap.size) (hdg : decode (bk k) pc = .ok (.lconst n, len)) (h : sti k pc ml mst S I len (.lconst n) = some (.inl (pc', ml', mst', S', I'))) (W0 : zWo D base b xs ad cA F S I s H) (hS : va_S (fun q => base ≤ q) s.heap H locs) (hL : zLr b ad S.1.length (lk k) (hk k) ls ml) (hT : zSr b ad S.1.length mst st) (hc : cells + (S'.1.length - S.1.length) ≤ R.cells) (hs : slots + (zsl S' - zsl S) ≤ R.slots)
    (kk : zK D base b xs k p l e R s m args below meth c Q S S' I' ad cells slots pc' ml' mst') : W p l e R s m args below meth c H locs cells slots Q (F0 m pc ls st) := by
  obtain ⟨hx, hb, hml, hown, hts, hRf, hRl, hni⟩ := Cx
  simp only [sti] at h
  split at h
  · rename_i h0
    subst h0
    simp only [nx, Option.some.injEq, Sum.inl.injEq, Prod.mk.injEq] at h
    obtain ⟨rfl, rfl, rfl, rfl, rfl⟩ := h
    refine lv_lconst hx hb hdg rfl (kk.go W0 hS hL ⟨⟨_, rfl, ?_⟩, hT⟩)
    rcases n with ⟨n, hn⟩
    have : n = 0 ∨ n = 1 := by omega
    rcases this with rfl | rfl <;> rfl
  · cases h
theorem zn_ldc {n : Nat} {len pc' : Nat} {ml' mst' : List zV} {S' : zS} {I' : zM} (Cx : zCx k R p s m args meth c) (hbs : base ≤ s.heap.size) (hdg : decode (bk k) pc = .ok (.ldc n, len)) (h : sti k pc ml mst S I len (.ldc n) = some (.inl (pc', ml', mst', S', I'))) (W0 : zWo D base b xs ad cA F S I s H) (hS : va_S (fun q => base ≤ q) s.heap H locs) (hL : zLr b ad S.1.length (lk k) (hk k) ls ml) (hT : zSr b ad S.1.length mst st) (hc : cells + (S'.1.length - S.1.length) ≤ R.cells) (hs : slots + (zsl S' - zsl S) ≤ R.slots)
    (kk : zK D base b xs k p l e R s m args below meth c Q S S' I' ad cells slots pc' ml' mst') : W p l e R s m args below meth c H locs cells slots Q (F0 m pc ls st) := by
  obtain ⟨hx, hb, hml, hown, hts, hRf, hRl, hni⟩ := Cx
  simp only [sti] at h
  split at h
  · rename_i h0
    subst h0
    split at h
    · rename_i v hv
      simp only [nx, Option.some.injEq, Sum.inl.injEq, Prod.mk.injEq] at h
      obtain ⟨rfl, rfl, rfl, rfl, rfl⟩ := h
      obtain ⟨i, h1, h2⟩ := zki_of hv
      exact lv_ldc hx hb hown (hts _ (zt_gp h1 rfl)) hdg (kk.go W0 hS hL ⟨⟨_, rfl, zi_of h2⟩, hT⟩)
    · cases h
  · cases h
theorem zn_ldc_w {n : Nat} {len pc' : Nat} {ml' mst' : List zV} {S' : zS} {I' : zM} (Cx : zCx k R p s m args meth c) (hbs : base ≤ s.heap.size) (hdg : decode (bk k) pc = .ok (.ldc_w n, len)) (h : sti k pc ml mst S I len (.ldc_w n) = some (.inl (pc', ml', mst', S', I'))) (W0 : zWo D base b xs ad cA F S I s H) (hS : va_S (fun q => base ≤ q) s.heap H locs) (hL : zLr b ad S.1.length (lk k) (hk k) ls ml) (hT : zSr b ad S.1.length mst st) (hc : cells + (S'.1.length - S.1.length) ≤ R.cells) (hs : slots + (zsl S' - zsl S) ≤ R.slots)
    (kk : zK D base b xs k p l e R s m args below meth c Q S S' I' ad cells slots pc' ml' mst') : W p l e R s m args below meth c H locs cells slots Q (F0 m pc ls st) := by
  obtain ⟨hx, hb, hml, hown, hts, hRf, hRl, hni⟩ := Cx
  simp only [sti] at h
  split at h
  · rename_i h0
    subst h0
    split at h
    · rename_i v hv
      simp only [nx, Option.some.injEq, Sum.inl.injEq, Prod.mk.injEq] at h
      obtain ⟨rfl, rfl, rfl, rfl, rfl⟩ := h
      obtain ⟨i, h1, h2⟩ := zki_of hv
      exact lv_ldcw hx hb hown (hts _ (zt_gp h1 rfl)) hdg (kk.go W0 hS hL ⟨⟨_, rfl, zi_of h2⟩, hT⟩)
    · cases h
  · cases h
theorem zn_ldc2_w {n : Nat} {len pc' : Nat} {ml' mst' : List zV} {S' : zS} {I' : zM} (Cx : zCx k R p s m args meth c) (hbs : base ≤ s.heap.size) (hdg : decode (bk k) pc = .ok (.ldc2_w n, len)) (h : sti k pc ml mst S I len (.ldc2_w n) = some (.inl (pc', ml', mst', S', I'))) (W0 : zWo D base b xs ad cA F S I s H) (hS : va_S (fun q => base ≤ q) s.heap H locs) (hL : zLr b ad S.1.length (lk k) (hk k) ls ml) (hT : zSr b ad S.1.length mst st) (hc : cells + (S'.1.length - S.1.length) ≤ R.cells) (hs : slots + (zsl S' - zsl S) ≤ R.slots)
    (kk : zK D base b xs k p l e R s m args below meth c Q S S' I' ad cells slots pc' ml' mst') : W p l e R s m args below meth c H locs cells slots Q (F0 m pc ls st) := by
  obtain ⟨hx, hb, hml, hown, hts, hRf, hRl, hni⟩ := Cx
  simp only [sti] at h
  split at h
  · rename_i h0
    subst h0
    split at h
    · rename_i v hv
      simp only [nx, Option.some.injEq, Sum.inl.injEq, Prod.mk.injEq] at h
      obtain ⟨rfl, rfl, rfl, rfl, rfl⟩ := h
      obtain ⟨i, h1, h2⟩ := zkj_of hv
      exact lv_ldc2 hx hb hown (hts _ (zt_gp h1 rfl)) hdg (kk.go W0 hS hL ⟨⟨_, rfl, zj_of h2⟩, hT⟩)
    · cases h
  · cases h
theorem zn_iload_n {n : Fin 4} {len pc' : Nat} {ml' mst' : List zV} {S' : zS} {I' : zM} (Cx : zCx k R p s m args meth c) (hbs : base ≤ s.heap.size) (hdg : decode (bk k) pc = .ok (.iload_n n, len)) (h : sti k pc ml mst S I len (.iload_n n) = some (.inl (pc', ml', mst', S', I'))) (W0 : zWo D base b xs ad cA F S I s H) (hS : va_S (fun q => base ≤ q) s.heap H locs) (hL : zLr b ad S.1.length (lk k) (hk k) ls ml) (hT : zSr b ad S.1.length mst st) (hc : cells + (S'.1.length - S.1.length) ≤ R.cells) (hs : slots + (zsl S' - zsl S) ≤ R.slots)
    (kk : zK D base b xs k p l e R s m args below meth c Q S S' I' ad cells slots pc' ml' mst') : W p l e R s m args below meth c H locs cells slots Q (F0 m pc ls st) := by
  obtain ⟨hx, hb, hml, hown, hts, hRf, hRl, hni⟩ := Cx
  simp only [sti] at h
  split at h
  · rename_i h0
    subst h0
    split at h
    · rename_i x hv
      simp only [nx, Option.some.injEq, Sum.inl.injEq, Prod.mk.injEq] at h
      obtain ⟨rfl, rfl, rfl, rfl, rfl⟩ := h
      obtain ⟨w, h1, h2⟩ := zLr_i hL hv
      exact lv_iload_n hx hb hdg rfl h1 (kk.go W0 hS hL ⟨⟨w, rfl, h2⟩, hT⟩)
    · cases h
  · cases h
theorem zn_iload {n : Nat} {len pc' : Nat} {ml' mst' : List zV} {S' : zS} {I' : zM} (Cx : zCx k R p s m args meth c) (hbs : base ≤ s.heap.size) (hdg : decode (bk k) pc = .ok (.iload n, len)) (h : sti k pc ml mst S I len (.iload n) = some (.inl (pc', ml', mst', S', I'))) (W0 : zWo D base b xs ad cA F S I s H) (hS : va_S (fun q => base ≤ q) s.heap H locs) (hL : zLr b ad S.1.length (lk k) (hk k) ls ml) (hT : zSr b ad S.1.length mst st) (hc : cells + (S'.1.length - S.1.length) ≤ R.cells) (hs : slots + (zsl S' - zsl S) ≤ R.slots)
    (kk : zK D base b xs k p l e R s m args below meth c Q S S' I' ad cells slots pc' ml' mst') : W p l e R s m args below meth c H locs cells slots Q (F0 m pc ls st) := by
  obtain ⟨hx, hb, hml, hown, hts, hRf, hRl, hni⟩ := Cx
  simp only [sti] at h
  split at h
  · rename_i h0
    subst h0
    split at h
    · rename_i x hv
      simp only [nx, Option.some.injEq, Sum.inl.injEq, Prod.mk.injEq] at h
      obtain ⟨rfl, rfl, rfl, rfl, rfl⟩ := h
      obtain ⟨w, h1, h2⟩ := zLr_i hL hv
      exact lv_iload hx hb hdg h1 (kk.go W0 hS hL ⟨⟨w, rfl, h2⟩, hT⟩)
    · cases h
  · cases h
theorem zn_lload_n {n : Fin 4} {len pc' : Nat} {ml' mst' : List zV} {S' : zS} {I' : zM} (Cx : zCx k R p s m args meth c) (hbs : base ≤ s.heap.size) (hdg : decode (bk k) pc = .ok (.lload_n n, len)) (h : sti k pc ml mst S I len (.lload_n n) = some (.inl (pc', ml', mst', S', I'))) (W0 : zWo D base b xs ad cA F S I s H) (hS : va_S (fun q => base ≤ q) s.heap H locs) (hL : zLr b ad S.1.length (lk k) (hk k) ls ml) (hT : zSr b ad S.1.length mst st) (hc : cells + (S'.1.length - S.1.length) ≤ R.cells) (hs : slots + (zsl S' - zsl S) ≤ R.slots)
    (kk : zK D base b xs k p l e R s m args below meth c Q S S' I' ad cells slots pc' ml' mst') : W p l e R s m args below meth c H locs cells slots Q (F0 m pc ls st) := by
  obtain ⟨hx, hb, hml, hown, hts, hRf, hRl, hni⟩ := Cx
  simp only [sti] at h
  split at h
  · rename_i h0
    subst h0
    split at h
    · rename_i x hv
      simp only [nx, Option.some.injEq, Sum.inl.injEq, Prod.mk.injEq] at h
      obtain ⟨rfl, rfl, rfl, rfl, rfl⟩ := h
      obtain ⟨w, h1, h2⟩ := zLr_j hL hv
      exact lv_lload_n hx hb hdg rfl h1 (kk.go W0 hS hL ⟨⟨w, rfl, h2⟩, hT⟩)
    · cases h
  · cases h
theorem zn_lload {n : Nat} {len pc' : Nat} {ml' mst' : List zV} {S' : zS} {I' : zM} (Cx : zCx k R p s m args meth c) (hbs : base ≤ s.heap.size) (hdg : decode (bk k) pc = .ok (.lload n, len)) (h : sti k pc ml mst S I len (.lload n) = some (.inl (pc', ml', mst', S', I'))) (W0 : zWo D base b xs ad cA F S I s H) (hS : va_S (fun q => base ≤ q) s.heap H locs) (hL : zLr b ad S.1.length (lk k) (hk k) ls ml) (hT : zSr b ad S.1.length mst st) (hc : cells + (S'.1.length - S.1.length) ≤ R.cells) (hs : slots + (zsl S' - zsl S) ≤ R.slots)
    (kk : zK D base b xs k p l e R s m args below meth c Q S S' I' ad cells slots pc' ml' mst') : W p l e R s m args below meth c H locs cells slots Q (F0 m pc ls st) := by
  obtain ⟨hx, hb, hml, hown, hts, hRf, hRl, hni⟩ := Cx
  simp only [sti] at h
  split at h
  · rename_i h0
    subst h0
    split at h
    · rename_i x hv
      simp only [nx, Option.some.injEq, Sum.inl.injEq, Prod.mk.injEq] at h
      obtain ⟨rfl, rfl, rfl, rfl, rfl⟩ := h
      obtain ⟨w, h1, h2⟩ := zLr_j hL hv
      exact lv_lload hx hb hdg h1 (kk.go W0 hS hL ⟨⟨w, rfl, h2⟩, hT⟩)
    · cases h
  · cases h
theorem zn_aload_n {n : Fin 4} {len pc' : Nat} {ml' mst' : List zV} {S' : zS} {I' : zM} (Cx : zCx k R p s m args meth c) (hbs : base ≤ s.heap.size) (hdg : decode (bk k) pc = .ok (.aload_n n, len)) (h : sti k pc ml mst S I len (.aload_n n) = some (.inl (pc', ml', mst', S', I'))) (W0 : zWo D base b xs ad cA F S I s H) (hS : va_S (fun q => base ≤ q) s.heap H locs) (hL : zLr b ad S.1.length (lk k) (hk k) ls ml) (hT : zSr b ad S.1.length mst st) (hc : cells + (S'.1.length - S.1.length) ≤ R.cells) (hs : slots + (zsl S' - zsl S) ≤ R.slots)
    (kk : zK D base b xs k p l e R s m args below meth c Q S S' I' ad cells slots pc' ml' mst') : W p l e R s m args below meth c H locs cells slots Q (F0 m pc ls st) := by
  obtain ⟨hx, hb, hml, hown, hts, hRf, hRl, hni⟩ := Cx
  simp only [sti] at h
  split at h
  · rename_i h0
    subst h0
    split at h
    · rename_i x hv
      simp only [nx, Option.some.injEq, Sum.inl.injEq, Prod.mk.injEq] at h
      obtain ⟨rfl, rfl, rfl, rfl, rfl⟩ := h
      obtain ⟨h1, h2⟩ := zLr_r hL hv
      exact lv_aload_n hx hb hdg rfl h1 (kk.go W0 hS hL ⟨⟨rfl, h2⟩, hT⟩)
    · rename_i hv
      simp only [nx, Option.some.injEq, Sum.inl.injEq, Prod.mk.injEq] at h
      obtain ⟨rfl, rfl, rfl, rfl, rfl⟩ := h
      have h1 := zLr_x hL hv
      exact lv_aload_n hx hb hdg rfl h1 (kk.go W0 hS hL ⟨rfl, hT⟩)
    · cases h
  · cases h
theorem zn_aload {n : Nat} {len pc' : Nat} {ml' mst' : List zV} {S' : zS} {I' : zM} (Cx : zCx k R p s m args meth c) (hbs : base ≤ s.heap.size) (hdg : decode (bk k) pc = .ok (.aload n, len)) (h : sti k pc ml mst S I len (.aload n) = some (.inl (pc', ml', mst', S', I'))) (W0 : zWo D base b xs ad cA F S I s H) (hS : va_S (fun q => base ≤ q) s.heap H locs) (hL : zLr b ad S.1.length (lk k) (hk k) ls ml) (hT : zSr b ad S.1.length mst st) (hc : cells + (S'.1.length - S.1.length) ≤ R.cells) (hs : slots + (zsl S' - zsl S) ≤ R.slots)
    (kk : zK D base b xs k p l e R s m args below meth c Q S S' I' ad cells slots pc' ml' mst') : W p l e R s m args below meth c H locs cells slots Q (F0 m pc ls st) := by
  obtain ⟨hx, hb, hml, hown, hts, hRf, hRl, hni⟩ := Cx
  simp only [sti] at h
  split at h
  · rename_i h0
    subst h0
    split at h
    · rename_i x hv
      simp only [nx, Option.some.injEq, Sum.inl.injEq, Prod.mk.injEq] at h
      obtain ⟨rfl, rfl, rfl, rfl, rfl⟩ := h
      obtain ⟨h1, h2⟩ := zLr_r hL hv
      exact lv_aload hx hb hdg h1 (kk.go W0 hS hL ⟨⟨rfl, h2⟩, hT⟩)
    · cases h
  · cases h
theorem zn_istore_n {n : Fin 4} {len pc' : Nat} {ml' mst' : List zV} {S' : zS} {I' : zM} (Cx : zCx k R p s m args meth c) (hbs : base ≤ s.heap.size) (hdg : decode (bk k) pc = .ok (.istore_n n, len)) (h : sti k pc ml mst S I len (.istore_n n) = some (.inl (pc', ml', mst', S', I'))) (W0 : zWo D base b xs ad cA F S I s H) (hS : va_S (fun q => base ≤ q) s.heap H locs) (hL : zLr b ad S.1.length (lk k) (hk k) ls ml) (hT : zSr b ad S.1.length mst st) (hc : cells + (S'.1.length - S.1.length) ≤ R.cells) (hs : slots + (zsl S' - zsl S) ≤ R.slots)
    (kk : zK D base b xs k p l e R s m args below meth c Q S S' I' ad cells slots pc' ml' mst') : W p l e R s m args below meth c H locs cells slots Q (F0 m pc ls st) := by
  obtain ⟨hx, hb, hml, hown, hts, hRf, hRl, hni⟩ := Cx
  simp only [sti] at h
  split at h
  · rename_i h0
    obtain ⟨rfl, hn, hf⟩ := h0
    split at h
    · rename_i x r
      simp only [nx, Option.some.injEq, Sum.inl.injEq, Prod.mk.injEq] at h
      obtain ⟨rfl, rfl, rfl, rfl, rfl⟩ := h
      obtain ⟨i, q, rfl, hi, hq⟩ := zSr_i hT
      exact lv_istore_n hx hb hdg rfl (zlv_has hL.1 hL.2.1) (by rw [hL.2.2.1] at hn; exact hn) rfl (fun ls' h' => kk.go W0 hS (zLr_store hL hf rfl ⟨i, rfl, hi⟩ h') hq)
    · cases h
  · cases h
theorem zn_istore {n : Nat} {len pc' : Nat} {ml' mst' : List zV} {S' : zS} {I' : zM} (Cx : zCx k R p s m args meth c) (hbs : base ≤ s.heap.size) (hdg : decode (bk k) pc = .ok (.istore n, len)) (h : sti k pc ml mst S I len (.istore n) = some (.inl (pc', ml', mst', S', I'))) (W0 : zWo D base b xs ad cA F S I s H) (hS : va_S (fun q => base ≤ q) s.heap H locs) (hL : zLr b ad S.1.length (lk k) (hk k) ls ml) (hT : zSr b ad S.1.length mst st) (hc : cells + (S'.1.length - S.1.length) ≤ R.cells) (hs : slots + (zsl S' - zsl S) ≤ R.slots)
    (kk : zK D base b xs k p l e R s m args below meth c Q S S' I' ad cells slots pc' ml' mst') : W p l e R s m args below meth c H locs cells slots Q (F0 m pc ls st) := by
  obtain ⟨hx, hb, hml, hown, hts, hRf, hRl, hni⟩ := Cx
  simp only [sti] at h
  split at h
  · rename_i h0
    obtain ⟨rfl, hn, hf⟩ := h0
    split at h
    · rename_i x r
      simp only [nx, Option.some.injEq, Sum.inl.injEq, Prod.mk.injEq] at h
      obtain ⟨rfl, rfl, rfl, rfl, rfl⟩ := h
      obtain ⟨i, q, rfl, hi, hq⟩ := zSr_i hT
      exact lv_istore hx hb hdg (zlv_has hL.1 hL.2.1) (by rw [hL.2.2.1] at hn; exact hn) rfl (fun ls' h' => kk.go W0 hS (zLr_store hL hf rfl ⟨i, rfl, hi⟩ h') hq)
    · cases h
  · cases h
theorem zn_astore_n {n : Fin 4} {len pc' : Nat} {ml' mst' : List zV} {S' : zS} {I' : zM} (Cx : zCx k R p s m args meth c) (hbs : base ≤ s.heap.size) (hdg : decode (bk k) pc = .ok (.astore_n n, len)) (h : sti k pc ml mst S I len (.astore_n n) = some (.inl (pc', ml', mst', S', I'))) (W0 : zWo D base b xs ad cA F S I s H) (hS : va_S (fun q => base ≤ q) s.heap H locs) (hL : zLr b ad S.1.length (lk k) (hk k) ls ml) (hT : zSr b ad S.1.length mst st) (hc : cells + (S'.1.length - S.1.length) ≤ R.cells) (hs : slots + (zsl S' - zsl S) ≤ R.slots)
    (kk : zK D base b xs k p l e R s m args below meth c Q S S' I' ad cells slots pc' ml' mst') : W p l e R s m args below meth c H locs cells slots Q (F0 m pc ls st) := by
  obtain ⟨hx, hb, hml, hown, hts, hRf, hRl, hni⟩ := Cx
  simp only [sti] at h
  split at h
  · rename_i h0
    obtain ⟨rfl, hn, hf⟩ := h0
    split at h
    · rename_i x r
      simp only [nx, Option.some.injEq, Sum.inl.injEq, Prod.mk.injEq] at h
      obtain ⟨rfl, rfl, rfl, rfl, rfl⟩ := h
      obtain ⟨q, rfl, hi, hq⟩ := zSr_r hT
      exact lv_astore_n hx hb hdg rfl (zlv_has hL.1 hL.2.1) (by rw [hL.2.2.1] at hn; exact hn) rfl (fun ls' h' => kk.go W0 hS (zLr_store hL hf rfl ⟨rfl, hi⟩ h') hq)
    · cases h
  · cases h
theorem zn_astore {n : Nat} {len pc' : Nat} {ml' mst' : List zV} {S' : zS} {I' : zM} (Cx : zCx k R p s m args meth c) (hbs : base ≤ s.heap.size) (hdg : decode (bk k) pc = .ok (.astore n, len)) (h : sti k pc ml mst S I len (.astore n) = some (.inl (pc', ml', mst', S', I'))) (W0 : zWo D base b xs ad cA F S I s H) (hS : va_S (fun q => base ≤ q) s.heap H locs) (hL : zLr b ad S.1.length (lk k) (hk k) ls ml) (hT : zSr b ad S.1.length mst st) (hc : cells + (S'.1.length - S.1.length) ≤ R.cells) (hs : slots + (zsl S' - zsl S) ≤ R.slots)
    (kk : zK D base b xs k p l e R s m args below meth c Q S S' I' ad cells slots pc' ml' mst') : W p l e R s m args below meth c H locs cells slots Q (F0 m pc ls st) := by
  obtain ⟨hx, hb, hml, hown, hts, hRf, hRl, hni⟩ := Cx
  simp only [sti] at h
  split at h
  · rename_i h0
    obtain ⟨rfl, hn, hf⟩ := h0
    split at h
    · rename_i x r
      simp only [nx, Option.some.injEq, Sum.inl.injEq, Prod.mk.injEq] at h
      obtain ⟨rfl, rfl, rfl, rfl, rfl⟩ := h
      obtain ⟨q, rfl, hi, hq⟩ := zSr_r hT
      exact lv_astore hx hb hdg (zlv_has hL.1 hL.2.1) (by rw [hL.2.2.1] at hn; exact hn) rfl (fun ls' h' => kk.go W0 hS (zLr_store hL hf rfl ⟨rfl, hi⟩ h') hq)
    · cases h
  · cases h
theorem zn_iinc {i : Nat} {n : Int} {len pc' : Nat} {ml' mst' : List zV} {S' : zS} {I' : zM} (Cx : zCx k R p s m args meth c) (hbs : base ≤ s.heap.size) (hdg : decode (bk k) pc = .ok (.iinc i n, len)) (h : sti k pc ml mst S I len (.iinc i n) = some (.inl (pc', ml', mst', S', I'))) (W0 : zWo D base b xs ad cA F S I s H) (hS : va_S (fun q => base ≤ q) s.heap H locs) (hL : zLr b ad S.1.length (lk k) (hk k) ls ml) (hT : zSr b ad S.1.length mst st) (hc : cells + (S'.1.length - S.1.length) ≤ R.cells) (hs : slots + (zsl S' - zsl S) ≤ R.slots)
    (kk : zK D base b xs k p l e R s m args below meth c Q S S' I' ad cells slots pc' ml' mst') : W p l e R s m args below meth c H locs cells slots Q (F0 m pc ls st) := by
  obtain ⟨hx, hb, hml, hown, hts, hRf, hRl, hni⟩ := Cx
  simp only [sti] at h
  split at h
  · rename_i h0
    obtain ⟨rfl, hf, hn⟩ := h0
    split at h
    · rename_i x hv
      split at h
      · rename_i hr
        simp only [nx, Option.some.injEq, Sum.inl.injEq, Prod.mk.injEq] at h
        obtain ⟨rfl, rfl, rfl, rfl, rfl⟩ := h
        obtain ⟨w, h1, h2⟩ := zLr_i hL hv
        subst h2
        have hlt : i < lk k := by rw [← hL.1]; exact lv_lt h1
        obtain ⟨q, hq⟩ := List.getElem?_of_mem (zlv_mem.mpr ⟨h1, rfl⟩)
        exact lv_iinc hx hb hdg (zlv_has hL.1 hL.2.1) hq rfl hlt rfl (fun ls' h' => kk.go W0 hS (zLr_store hL hf rfl ⟨_, rfl, by rw [zi_add (by rw [zi_of hn]; exact hr), zi_of hn]⟩ h') hT)
      · cases h
    · cases h
  · cases h
theorem zn_iadd {len pc' : Nat} {ml' mst' : List zV} {S' : zS} {I' : zM} (Cx : zCx k R p s m args meth c) (hbs : base ≤ s.heap.size) (hdg : decode (bk k) pc = .ok (.iadd, len)) (h : sti k pc ml mst S I len (.iadd) = some (.inl (pc', ml', mst', S', I'))) (W0 : zWo D base b xs ad cA F S I s H) (hS : va_S (fun q => base ≤ q) s.heap H locs) (hL : zLr b ad S.1.length (lk k) (hk k) ls ml) (hT : zSr b ad S.1.length mst st) (hc : cells + (S'.1.length - S.1.length) ≤ R.cells) (hs : slots + (zsl S' - zsl S) ≤ R.slots)
    (kk : zK D base b xs k p l e R s m args below meth c Q S S' I' ad cells slots pc' ml' mst') : W p l e R s m args below meth c H locs cells slots Q (F0 m pc ls st) := by
  obtain ⟨hx, hb, hml, hown, hts, hRf, hRl, hni⟩ := Cx
  simp only [sti] at h
  split at h
  · rename_i y x r
    split at h
    · rename_i h0
      obtain ⟨rfl, hr⟩ := h0
      simp only [nx, Option.some.injEq, Sum.inl.injEq, Prod.mk.injEq] at h
      obtain ⟨rfl, rfl, rfl, rfl, rfl⟩ := h
      obtain ⟨i, q, rfl, rfl, hq⟩ := zSr_i hT
      obtain ⟨i2, q2, rfl, rfl, hq2⟩ := zSr_i hq
      exact lv_iadd hx hb hdg (kk.go W0 hS hL ⟨⟨_, rfl, zi_add hr⟩, hq2⟩)
    · cases h
  · cases h
theorem zn_isub {len pc' : Nat} {ml' mst' : List zV} {S' : zS} {I' : zM} (Cx : zCx k R p s m args meth c) (hbs : base ≤ s.heap.size) (hdg : decode (bk k) pc = .ok (.isub, len)) (h : sti k pc ml mst S I len (.isub) = some (.inl (pc', ml', mst', S', I'))) (W0 : zWo D base b xs ad cA F S I s H) (hS : va_S (fun q => base ≤ q) s.heap H locs) (hL : zLr b ad S.1.length (lk k) (hk k) ls ml) (hT : zSr b ad S.1.length mst st) (hc : cells + (S'.1.length - S.1.length) ≤ R.cells) (hs : slots + (zsl S' - zsl S) ≤ R.slots)
    (kk : zK D base b xs k p l e R s m args below meth c Q S S' I' ad cells slots pc' ml' mst') : W p l e R s m args below meth c H locs cells slots Q (F0 m pc ls st) := by
  obtain ⟨hx, hb, hml, hown, hts, hRf, hRl, hni⟩ := Cx
  simp only [sti] at h
  split at h
  · rename_i y x r
    split at h
    · rename_i h0
      obtain ⟨rfl, hr⟩ := h0
      simp only [nx, Option.some.injEq, Sum.inl.injEq, Prod.mk.injEq] at h
      obtain ⟨rfl, rfl, rfl, rfl, rfl⟩ := h
      obtain ⟨i, q, rfl, rfl, hq⟩ := zSr_i hT
      obtain ⟨i2, q2, rfl, rfl, hq2⟩ := zSr_i hq
      exact lv_isub hx hb hdg (kk.go W0 hS hL ⟨⟨_, rfl, zi_sub hr⟩, hq2⟩)
    · cases h
  · cases h
theorem zn_imul {len pc' : Nat} {ml' mst' : List zV} {S' : zS} {I' : zM} (Cx : zCx k R p s m args meth c) (hbs : base ≤ s.heap.size) (hdg : decode (bk k) pc = .ok (.imul, len)) (h : sti k pc ml mst S I len (.imul) = some (.inl (pc', ml', mst', S', I'))) (W0 : zWo D base b xs ad cA F S I s H) (hS : va_S (fun q => base ≤ q) s.heap H locs) (hL : zLr b ad S.1.length (lk k) (hk k) ls ml) (hT : zSr b ad S.1.length mst st) (hc : cells + (S'.1.length - S.1.length) ≤ R.cells) (hs : slots + (zsl S' - zsl S) ≤ R.slots)
    (kk : zK D base b xs k p l e R s m args below meth c Q S S' I' ad cells slots pc' ml' mst') : W p l e R s m args below meth c H locs cells slots Q (F0 m pc ls st) := by
  obtain ⟨hx, hb, hml, hown, hts, hRf, hRl, hni⟩ := Cx
  simp only [sti] at h
  split at h
  · rename_i y x r
    split at h
    · rename_i h0
      obtain ⟨rfl, hr⟩ := h0
      simp only [nx, Option.some.injEq, Sum.inl.injEq, Prod.mk.injEq] at h
      obtain ⟨rfl, rfl, rfl, rfl, rfl⟩ := h
      obtain ⟨i, q, rfl, rfl, hq⟩ := zSr_i hT
      obtain ⟨i2, q2, rfl, rfl, hq2⟩ := zSr_i hq
      exact lv_imul hx hb hdg (kk.go W0 hS hL ⟨⟨_, rfl, zi_mul hr⟩, hq2⟩)
    · cases h
  · cases h
theorem zn_iand {len pc' : Nat} {ml' mst' : List zV} {S' : zS} {I' : zM} (Cx : zCx k R p s m args meth c) (hbs : base ≤ s.heap.size) (hdg : decode (bk k) pc = .ok (.iand, len)) (h : sti k pc ml mst S I len (.iand) = some (.inl (pc', ml', mst', S', I'))) (W0 : zWo D base b xs ad cA F S I s H) (hS : va_S (fun q => base ≤ q) s.heap H locs) (hL : zLr b ad S.1.length (lk k) (hk k) ls ml) (hT : zSr b ad S.1.length mst st) (hc : cells + (S'.1.length - S.1.length) ≤ R.cells) (hs : slots + (zsl S' - zsl S) ≤ R.slots)
    (kk : zK D base b xs k p l e R s m args below meth c Q S S' I' ad cells slots pc' ml' mst') : W p l e R s m args below meth c H locs cells slots Q (F0 m pc ls st) := by
  obtain ⟨hx, hb, hml, hown, hts, hRf, hRl, hni⟩ := Cx
  simp only [sti] at h
  split at h
  · rename_i y x r
    split at h
    · rename_i h0
      subst h0
      simp only [nx, Option.some.injEq, Sum.inl.injEq, Prod.mk.injEq] at h
      obtain ⟨rfl, rfl, rfl, rfl, rfl⟩ := h
      obtain ⟨i, q, rfl, rfl, hq⟩ := zSr_i hT
      obtain ⟨i2, q2, rfl, rfl, hq2⟩ := zSr_i hq
      exact lv_iand hx hb hdg (kk.go W0 hS hL ⟨⟨_, rfl, by rw [zand, zi_back, zi_back]⟩, hq2⟩)
    · cases h
  · cases h
theorem zn_i2l {len pc' : Nat} {ml' mst' : List zV} {S' : zS} {I' : zM} (Cx : zCx k R p s m args meth c) (hbs : base ≤ s.heap.size) (hdg : decode (bk k) pc = .ok (.i2l, len)) (h : sti k pc ml mst S I len (.i2l) = some (.inl (pc', ml', mst', S', I'))) (W0 : zWo D base b xs ad cA F S I s H) (hS : va_S (fun q => base ≤ q) s.heap H locs) (hL : zLr b ad S.1.length (lk k) (hk k) ls ml) (hT : zSr b ad S.1.length mst st) (hc : cells + (S'.1.length - S.1.length) ≤ R.cells) (hs : slots + (zsl S' - zsl S) ≤ R.slots)
    (kk : zK D base b xs k p l e R s m args below meth c Q S S' I' ad cells slots pc' ml' mst') : W p l e R s m args below meth c H locs cells slots Q (F0 m pc ls st) := by
  obtain ⟨hx, hb, hml, hown, hts, hRf, hRl, hni⟩ := Cx
  simp only [sti] at h
  split at h
  · rename_i x r
    split at h
    · rename_i h0
      subst h0
      simp only [nx, Option.some.injEq, Sum.inl.injEq, Prod.mk.injEq] at h
      obtain ⟨rfl, rfl, rfl, rfl, rfl⟩ := h
      obtain ⟨i, q, rfl, rfl, hq⟩ := zSr_i hT
      exact lv_i2l hx hb hdg rfl (kk.go W0 hS hL ⟨⟨_, rfl, Int32.toInt_toInt64 i⟩, hq⟩)
    · cases h
  · cases h
theorem zn_ladd {len pc' : Nat} {ml' mst' : List zV} {S' : zS} {I' : zM} (Cx : zCx k R p s m args meth c) (hbs : base ≤ s.heap.size) (hdg : decode (bk k) pc = .ok (.ladd, len)) (h : sti k pc ml mst S I len (.ladd) = some (.inl (pc', ml', mst', S', I'))) (W0 : zWo D base b xs ad cA F S I s H) (hS : va_S (fun q => base ≤ q) s.heap H locs) (hL : zLr b ad S.1.length (lk k) (hk k) ls ml) (hT : zSr b ad S.1.length mst st) (hc : cells + (S'.1.length - S.1.length) ≤ R.cells) (hs : slots + (zsl S' - zsl S) ≤ R.slots)
    (kk : zK D base b xs k p l e R s m args below meth c Q S S' I' ad cells slots pc' ml' mst') : W p l e R s m args below meth c H locs cells slots Q (F0 m pc ls st) := by
  obtain ⟨hx, hb, hml, hown, hts, hRf, hRl, hni⟩ := Cx
  simp only [sti] at h
  split at h
  · rename_i y x r
    split at h
    · rename_i h0
      obtain ⟨rfl, hr⟩ := h0
      simp only [nx, Option.some.injEq, Sum.inl.injEq, Prod.mk.injEq] at h
      obtain ⟨rfl, rfl, rfl, rfl, rfl⟩ := h
      obtain ⟨i, q, rfl, rfl, hq⟩ := zSr_j hT
      obtain ⟨i2, q2, rfl, rfl, hq2⟩ := zSr_j hq
      exact lv_ladd hx hb hdg (kk.go W0 hS hL ⟨⟨_, rfl, zj_add hr⟩, hq2⟩)
    · cases h
  · cases h
theorem zn_lcmp {len pc' : Nat} {ml' mst' : List zV} {S' : zS} {I' : zM} (Cx : zCx k R p s m args meth c) (hbs : base ≤ s.heap.size) (hdg : decode (bk k) pc = .ok (.lcmp, len)) (h : sti k pc ml mst S I len (.lcmp) = some (.inl (pc', ml', mst', S', I'))) (W0 : zWo D base b xs ad cA F S I s H) (hS : va_S (fun q => base ≤ q) s.heap H locs) (hL : zLr b ad S.1.length (lk k) (hk k) ls ml) (hT : zSr b ad S.1.length mst st) (hc : cells + (S'.1.length - S.1.length) ≤ R.cells) (hs : slots + (zsl S' - zsl S) ≤ R.slots)
    (kk : zK D base b xs k p l e R s m args below meth c Q S S' I' ad cells slots pc' ml' mst') : W p l e R s m args below meth c H locs cells slots Q (F0 m pc ls st) := by
  obtain ⟨hx, hb, hml, hown, hts, hRf, hRl, hni⟩ := Cx
  simp only [sti] at h
  split at h
  · rename_i y x r
    split at h
    · rename_i h0
      subst h0
      simp only [nx, Option.some.injEq, Sum.inl.injEq, Prod.mk.injEq] at h
      obtain ⟨rfl, rfl, rfl, rfl, rfl⟩ := h
      obtain ⟨i, q, rfl, rfl, hq⟩ := zSr_j hT
      obtain ⟨i2, q2, rfl, rfl, hq2⟩ := zSr_j hq
      refine W.lcmp hx hb hdg (kk.go W0 hS hL ⟨⟨_, rfl, ?_⟩, hq2⟩)
      unfold lg_cmp
      by_cases h1 : i < i2
      · rw [if_pos h1, if_pos (Int64.lt_iff_toInt_lt.mp h1)]; rfl
      · rw [if_neg h1, if_neg (fun z => h1 (Int64.lt_iff_toInt_lt.mpr z))]
        by_cases h2 : i2 = i
        · rw [if_pos h2, if_pos (by rw [h2])]; rfl
        · rw [if_neg h2, if_neg (fun z => h2 (Int64.toInt_inj.mp z))]; rfl
    · cases h
  · cases h
theorem zn_dup {len pc' : Nat} {ml' mst' : List zV} {S' : zS} {I' : zM} (Cx : zCx k R p s m args meth c) (hbs : base ≤ s.heap.size) (hdg : decode (bk k) pc = .ok (.dup, len)) (h : sti k pc ml mst S I len (.dup) = some (.inl (pc', ml', mst', S', I'))) (W0 : zWo D base b xs ad cA F S I s H) (hS : va_S (fun q => base ≤ q) s.heap H locs) (hL : zLr b ad S.1.length (lk k) (hk k) ls ml) (hT : zSr b ad S.1.length mst st) (hc : cells + (S'.1.length - S.1.length) ≤ R.cells) (hs : slots + (zsl S' - zsl S) ≤ R.slots)
    (kk : zK D base b xs k p l e R s m args below meth c Q S S' I' ad cells slots pc' ml' mst') : W p l e R s m args below meth c H locs cells slots Q (F0 m pc ls st) := by
  obtain ⟨hx, hb, hml, hown, hts, hRf, hRl, hni⟩ := Cx
  simp only [sti] at h
  split at h
  · rename_i v r
    split at h
    · rename_i h0
      obtain ⟨rfl, hz⟩ := h0
      simp only [nx, Option.some.injEq, Sum.inl.injEq, Prod.mk.injEq] at h
      obtain ⟨rfl, rfl, rfl, rfl, rfl⟩ := h
      obtain ⟨w, q, rfl, hv, hq⟩ := zSr_c hT
      exact lv_dup hx hb hdg (zVr_c1 hv hz) (kk.go W0 hS hL ⟨hv, hv, hq⟩)
    · cases h
  · cases h
theorem zn_dup2 {len pc' : Nat} {ml' mst' : List zV} {S' : zS} {I' : zM} (Cx : zCx k R p s m args meth c) (hbs : base ≤ s.heap.size) (hdg : decode (bk k) pc = .ok (.dup2, len)) (h : sti k pc ml mst S I len (.dup2) = some (.inl (pc', ml', mst', S', I'))) (W0 : zWo D base b xs ad cA F S I s H) (hS : va_S (fun q => base ≤ q) s.heap H locs) (hL : zLr b ad S.1.length (lk k) (hk k) ls ml) (hT : zSr b ad S.1.length mst st) (hc : cells + (S'.1.length - S.1.length) ≤ R.cells) (hs : slots + (zsl S' - zsl S) ≤ R.slots)
    (kk : zK D base b xs k p l e R s m args below meth c Q S S' I' ad cells slots pc' ml' mst') : W p l e R s m args below meth c H locs cells slots Q (F0 m pc ls st) := by
  obtain ⟨hx, hb, hml, hown, hts, hRf, hRl, hni⟩ := Cx
  simp only [sti] at h
  split at h
  · rename_i v u r
    split at h
    · rename_i h0
      obtain ⟨rfl, hz, hz2⟩ := h0
      simp only [nx, Option.some.injEq, Sum.inl.injEq, Prod.mk.injEq] at h
      obtain ⟨rfl, rfl, rfl, rfl, rfl⟩ := h
      obtain ⟨w, q, rfl, hv, hq⟩ := zSr_c hT
      obtain ⟨w2, q2, rfl, hv2, hq2⟩ := zSr_c hq
      exact lv_dup2_11 hx hb hdg (zVr_c1 hv hz) (zVr_c1 hv2 hz2) (kk.go W0 hS hL ⟨hv, hv2, hv, hv2, hq2⟩)
    · cases h
  · cases h
theorem zn_pop {len pc' : Nat} {ml' mst' : List zV} {S' : zS} {I' : zM} (Cx : zCx k R p s m args meth c) (hbs : base ≤ s.heap.size) (hdg : decode (bk k) pc = .ok (.pop, len)) (h : sti k pc ml mst S I len (.pop) = some (.inl (pc', ml', mst', S', I'))) (W0 : zWo D base b xs ad cA F S I s H) (hS : va_S (fun q => base ≤ q) s.heap H locs) (hL : zLr b ad S.1.length (lk k) (hk k) ls ml) (hT : zSr b ad S.1.length mst st) (hc : cells + (S'.1.length - S.1.length) ≤ R.cells) (hs : slots + (zsl S' - zsl S) ≤ R.slots)
    (kk : zK D base b xs k p l e R s m args below meth c Q S S' I' ad cells slots pc' ml' mst') : W p l e R s m args below meth c H locs cells slots Q (F0 m pc ls st) := by
  obtain ⟨hx, hb, hml, hown, hts, hRf, hRl, hni⟩ := Cx
  simp only [sti] at h
  split at h
  · rename_i v r
    split at h
    · rename_i h0
      obtain ⟨rfl, hz⟩ := h0
      simp only [nx, Option.some.injEq, Sum.inl.injEq, Prod.mk.injEq] at h
      obtain ⟨rfl, rfl, rfl, rfl, rfl⟩ := h
      obtain ⟨w, q, rfl, hv, hq⟩ := zSr_c hT
      exact lv_pop hx hb hdg (zVr_c1 hv hz) (kk.go W0 hS hL hq)
    · cases h
  · cases h
theorem zn_if_icmp {cd : Jvm.ClassFile.Cond} {off : Int} {len pc' : Nat} {ml' mst' : List zV} {S' : zS} {I' : zM} (Cx : zCx k R p s m args meth c) (hbs : base ≤ s.heap.size) (hdg : decode (bk k) pc = .ok (.if_icmp cd off, len)) (h : sti k pc ml mst S I len (.if_icmp cd off) = some (.inl (pc', ml', mst', S', I'))) (W0 : zWo D base b xs ad cA F S I s H) (hS : va_S (fun q => base ≤ q) s.heap H locs) (hL : zLr b ad S.1.length (lk k) (hk k) ls ml) (hT : zSr b ad S.1.length mst st) (hc : cells + (S'.1.length - S.1.length) ≤ R.cells) (hs : slots + (zsl S' - zsl S) ≤ R.slots)
    (kk : zK D base b xs k p l e R s m args below meth c Q S S' I' ad cells slots pc' ml' mst') : W p l e R s m args below meth c H locs cells slots Q (F0 m pc ls st) := by
  obtain ⟨hx, hb, hml, hown, hts, hRf, hRl, hni⟩ := Cx
  simp only [sti] at h
  split at h
  · rename_i y x r
    split at h
    · rename_i h0
      obtain ⟨rfl, hge⟩ := h0
      simp only [nx, Option.some.injEq, Sum.inl.injEq, Prod.mk.injEq] at h
      obtain ⟨rfl, rfl, rfl, rfl, rfl⟩ := h
      obtain ⟨i, q, rfl, rfl, hq⟩ := zSr_i hT
      obtain ⟨i2, q2, rfl, rfl, hq2⟩ := zSr_i hq
      have ht : (pc : Int) + off = (((pc : Int) + off).toNat : Int) := (Int.toNat_of_nonneg hge).symm
      cases cd
      · have e := Int32.toInt_inj (x := i2) (y := i)
        refine lv_icmp_eq hx hb hdg ht (fun z => ?_) (fun z => ?_)
        · have hz : zc .eq i2.toInt i.toInt = true := by simp only [zc, decide_eq_true_eq]; exact e.mpr z
          rw [if_pos hz] at kk
          exact kk.go W0 hS hL hq2
        · have hz : ¬ zc .eq i2.toInt i.toInt = true := by simp only [zc, decide_eq_true_eq]; exact fun y => z (e.mp y)
          rw [if_neg hz] at kk
          exact kk.go W0 hS hL hq2
      · have e := Int32.toInt_inj (x := i2) (y := i)
        refine lv_icmp_ne hx hb hdg ht (fun z => ?_) (fun z => ?_)
        · have hz : zc .ne i2.toInt i.toInt = true := by simp only [zc, decide_eq_true_eq]; exact fun y => z (e.mp y)
          rw [if_pos hz] at kk
          exact kk.go W0 hS hL hq2
        · have hz : ¬ zc .ne i2.toInt i.toInt = true := by simp only [zc, decide_eq_true_eq]; exact fun y => y (e.mpr z)
          rw [if_neg hz] at kk
          exact kk.go W0 hS hL hq2
      · have e := Int32.lt_iff_toInt_lt (x := i2) (y := i)
        refine lv_icmp_lt hx hb hdg ht (fun z => ?_) (fun z => ?_)
        · have hz : zc .lt i2.toInt i.toInt = true := by simp only [zc, decide_eq_true_eq]; exact e.mp z
          rw [if_pos hz] at kk
          exact kk.go W0 hS hL hq2
        · have hz : ¬ zc .lt i2.toInt i.toInt = true := by simp only [zc, decide_eq_true_eq]; exact fun y => z (e.mpr y)
          rw [if_neg hz] at kk
          exact kk.go W0 hS hL hq2
      · have e := Int32.le_iff_toInt_le (x := i) (y := i2)
        refine lv_icmp_ge hx hb hdg ht (fun z => ?_) (fun z => ?_)
        · have hz : zc .ge i2.toInt i.toInt = true := by simp only [zc, decide_eq_true_eq]; exact e.mp z
          rw [if_pos hz] at kk
          exact kk.go W0 hS hL hq2
        · have hz : ¬ zc .ge i2.toInt i.toInt = true := by simp only [zc, decide_eq_true_eq]; exact fun y => z (e.mpr y)
          rw [if_neg hz] at kk
          exact kk.go W0 hS hL hq2
      · have e := Int32.lt_iff_toInt_lt (x := i) (y := i2)
        refine lv_icmp_gt hx hb hdg ht (fun z => ?_) (fun z => ?_)
        · have hz : zc .gt i2.toInt i.toInt = true := by simp only [zc, decide_eq_true_eq]; exact e.mp z
          rw [if_pos hz] at kk
          exact kk.go W0 hS hL hq2
        · have hz : ¬ zc .gt i2.toInt i.toInt = true := by simp only [zc, decide_eq_true_eq]; exact fun y => z (e.mpr y)
          rw [if_neg hz] at kk
          exact kk.go W0 hS hL hq2
      · have e := Int32.le_iff_toInt_le (x := i2) (y := i)
        refine lv_icmp_le hx hb hdg ht (fun z => ?_) (fun z => ?_)
        · have hz : zc .le i2.toInt i.toInt = true := by simp only [zc, decide_eq_true_eq]; exact e.mp z
          rw [if_pos hz] at kk
          exact kk.go W0 hS hL hq2
        · have hz : ¬ zc .le i2.toInt i.toInt = true := by simp only [zc, decide_eq_true_eq]; exact fun y => z (e.mpr y)
          rw [if_neg hz] at kk
          exact kk.go W0 hS hL hq2
    · cases h
  · cases h
theorem zn_ifCond {cd : Jvm.ClassFile.Cond} {off : Int} {len pc' : Nat} {ml' mst' : List zV} {S' : zS} {I' : zM} (Cx : zCx k R p s m args meth c) (hbs : base ≤ s.heap.size) (hdg : decode (bk k) pc = .ok (.ifCond cd off, len)) (h : sti k pc ml mst S I len (.ifCond cd off) = some (.inl (pc', ml', mst', S', I'))) (W0 : zWo D base b xs ad cA F S I s H) (hS : va_S (fun q => base ≤ q) s.heap H locs) (hL : zLr b ad S.1.length (lk k) (hk k) ls ml) (hT : zSr b ad S.1.length mst st) (hc : cells + (S'.1.length - S.1.length) ≤ R.cells) (hs : slots + (zsl S' - zsl S) ≤ R.slots)
    (kk : zK D base b xs k p l e R s m args below meth c Q S S' I' ad cells slots pc' ml' mst') : W p l e R s m args below meth c H locs cells slots Q (F0 m pc ls st) := by
  obtain ⟨hx, hb, hml, hown, hts, hRf, hRl, hni⟩ := Cx
  simp only [sti] at h
  split at h
  · rename_i x r
    split at h
    · rename_i h0
      obtain ⟨rfl, hge⟩ := h0
      simp only [nx, Option.some.injEq, Sum.inl.injEq, Prod.mk.injEq] at h
      obtain ⟨rfl, rfl, rfl, rfl, rfl⟩ := h
      obtain ⟨i, q, rfl, rfl, hq⟩ := zSr_i hT
      have ht : (pc : Int) + off = (((pc : Int) + off).toNat : Int) := (Int.toNat_of_nonneg hge).symm
      cases cd
      · have e := Int32.toInt_inj (x := i) (y := 0)
        rw [show (0 : Int32).toInt = 0 from rfl] at e; refine lv_if_eq hx hb hdg ht (fun z => ?_) (fun z => ?_)
        · have hz : zc .eq i.toInt 0 = true := by simp only [zc, decide_eq_true_eq]; exact e.mpr z
          rw [if_pos hz] at kk
          exact kk.go W0 hS hL hq
        · have hz : ¬ zc .eq i.toInt 0 = true := by simp only [zc, decide_eq_true_eq]; exact fun y => z (e.mp y)
          rw [if_neg hz] at kk
          exact kk.go W0 hS hL hq
      · have e := Int32.toInt_inj (x := i) (y := 0)
        rw [show (0 : Int32).toInt = 0 from rfl] at e; refine lv_if_ne hx hb hdg ht (fun z => ?_) (fun z => ?_)
        · have hz : zc .ne i.toInt 0 = true := by simp only [zc, decide_eq_true_eq]; exact fun y => z (e.mp y)
          rw [if_pos hz] at kk
          exact kk.go W0 hS hL hq
        · have hz : ¬ zc .ne i.toInt 0 = true := by simp only [zc, decide_eq_true_eq]; exact fun y => y (e.mpr z)
          rw [if_neg hz] at kk
          exact kk.go W0 hS hL hq
      · have e := Int32.lt_iff_toInt_lt (x := i) (y := 0)
        rw [show (0 : Int32).toInt = 0 from rfl] at e; refine lv_if_lt hx hb hdg ht (fun z => ?_) (fun z => ?_)
        · have hz : zc .lt i.toInt 0 = true := by simp only [zc, decide_eq_true_eq]; exact e.mp z
          rw [if_pos hz] at kk
          exact kk.go W0 hS hL hq
        · have hz : ¬ zc .lt i.toInt 0 = true := by simp only [zc, decide_eq_true_eq]; exact fun y => z (e.mpr y)
          rw [if_neg hz] at kk
          exact kk.go W0 hS hL hq
      · have e := Int32.le_iff_toInt_le (x := 0) (y := i)
        rw [show (0 : Int32).toInt = 0 from rfl] at e; refine lv_if_ge hx hb hdg ht (fun z => ?_) (fun z => ?_)
        · have hz : zc .ge i.toInt 0 = true := by simp only [zc, decide_eq_true_eq]; exact e.mp z
          rw [if_pos hz] at kk
          exact kk.go W0 hS hL hq
        · have hz : ¬ zc .ge i.toInt 0 = true := by simp only [zc, decide_eq_true_eq]; exact fun y => z (e.mpr y)
          rw [if_neg hz] at kk
          exact kk.go W0 hS hL hq
      · have e := Int32.lt_iff_toInt_lt (x := 0) (y := i)
        rw [show (0 : Int32).toInt = 0 from rfl] at e; refine lv_if_gt hx hb hdg ht (fun z => ?_) (fun z => ?_)
        · have hz : zc .gt i.toInt 0 = true := by simp only [zc, decide_eq_true_eq]; exact e.mp z
          rw [if_pos hz] at kk
          exact kk.go W0 hS hL hq
        · have hz : ¬ zc .gt i.toInt 0 = true := by simp only [zc, decide_eq_true_eq]; exact fun y => z (e.mpr y)
          rw [if_neg hz] at kk
          exact kk.go W0 hS hL hq
      · have e := Int32.le_iff_toInt_le (x := i) (y := 0)
        rw [show (0 : Int32).toInt = 0 from rfl] at e; refine lv_if_le hx hb hdg ht (fun z => ?_) (fun z => ?_)
        · have hz : zc .le i.toInt 0 = true := by simp only [zc, decide_eq_true_eq]; exact e.mp z
          rw [if_pos hz] at kk
          exact kk.go W0 hS hL hq
        · have hz : ¬ zc .le i.toInt 0 = true := by simp only [zc, decide_eq_true_eq]; exact fun y => z (e.mpr y)
          rw [if_neg hz] at kk
          exact kk.go W0 hS hL hq
    · cases h
  · cases h
theorem zn_goto {off : Int} {len pc' : Nat} {ml' mst' : List zV} {S' : zS} {I' : zM} (Cx : zCx k R p s m args meth c) (hbs : base ≤ s.heap.size) (hdg : decode (bk k) pc = .ok (.goto off, len)) (h : sti k pc ml mst S I len (.goto off) = some (.inl (pc', ml', mst', S', I'))) (W0 : zWo D base b xs ad cA F S I s H) (hS : va_S (fun q => base ≤ q) s.heap H locs) (hL : zLr b ad S.1.length (lk k) (hk k) ls ml) (hT : zSr b ad S.1.length mst st) (hc : cells + (S'.1.length - S.1.length) ≤ R.cells) (hs : slots + (zsl S' - zsl S) ≤ R.slots)
    (kk : zK D base b xs k p l e R s m args below meth c Q S S' I' ad cells slots pc' ml' mst') : W p l e R s m args below meth c H locs cells slots Q (F0 m pc ls st) := by
  obtain ⟨hx, hb, hml, hown, hts, hRf, hRl, hni⟩ := Cx
  simp only [sti] at h
  split at h
  · rename_i h0
    obtain ⟨rfl, hge⟩ := h0
    simp only [nx, Option.some.injEq, Sum.inl.injEq, Prod.mk.injEq] at h
    obtain ⟨rfl, rfl, rfl, rfl, rfl⟩ := h
    exact lv_goto hx hb hdg (Int.toNat_of_nonneg hge).symm (kk.go W0 hS hL hT)
  · cases h
theorem zn_tableswitch {df lo hi : Int} {offs : Array Int} {len pc' : Nat} {ml' mst' : List zV} {S' : zS} {I' : zM} (Cx : zCx k R p s m args meth c) (hbs : base ≤ s.heap.size) (hdg : decode (bk k) pc = .ok (.tableswitch df lo hi offs, len)) (h : sti k pc ml mst S I len (.tableswitch df lo hi offs) = some (.inl (pc', ml', mst', S', I'))) (W0 : zWo D base b xs ad cA F S I s H) (hS : va_S (fun q => base ≤ q) s.heap H locs) (hL : zLr b ad S.1.length (lk k) (hk k) ls ml) (hT : zSr b ad S.1.length mst st) (hc : cells + (S'.1.length - S.1.length) ≤ R.cells) (hs : slots + (zsl S' - zsl S) ≤ R.slots)
    (kk : zK D base b xs k p l e R s m args below meth c Q S S' I' ad cells slots pc' ml' mst') : W p l e R s m args below meth c H locs cells slots Q (F0 m pc ls st) := by
  obtain ⟨hx, hb, hml, hown, hts, hRf, hRl, hni⟩ := Cx
  simp only [sti] at h
  split at h
  · rename_i x r
    obtain ⟨i, q, rfl, rfl, hq⟩ := zSr_i hT
    split at h
    · rename_i h1
      split at h
      · rename_i hge
        simp only [nx, Option.some.injEq, Sum.inl.injEq, Prod.mk.injEq] at h
        obtain ⟨rfl, rfl, rfl, rfl, rfl⟩ := h
        exact lv_tableOut hx hb hdg h1 (Int.toNat_of_nonneg hge).symm (kk.go W0 hS hL hq)
      · cases h
    · rename_i h1
      split at h
      · rename_i of ho
        split at h
        · rename_i hge
          simp only [nx, Option.some.injEq, Sum.inl.injEq, Prod.mk.injEq] at h
          obtain ⟨rfl, rfl, rfl, rfl, rfl⟩ := h
          exact lv_tableIn hx hb hdg (fun z => h1 (Or.inl z)) (fun z => h1 (Or.inr z)) ho (Int.toNat_of_nonneg hge).symm (kk.go W0 hS hL hq)
        · cases h
      · cases h
  · cases h
end ZN
