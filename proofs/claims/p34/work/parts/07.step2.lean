section ZH
variable {D : va_G} {base b : Nat} {xs : Nat → Int32} {k : Nat} {p : Program} {l : Launch} {e : Env} {R : Room} {s : State} {m : MethodId} {args : Array Value} {below : List Frame} {meth : Method} {c : Code} {Q : State → Prop} {S : zS} {I : zM} {ad : Nat → Nat} {cA : Nat → ClassId} {F : Nat → Nat → Int32} {H : Heap} {locs : List Loc} {cells slots pc : Nat} {ml mst : List zV} {ls : Array Slot} {st : List Value}
theorem kd_some {a t : Nat} (h : kd S a = t) (ht : t < 900) : ∃ q, S.1[a]? = some q ∧ q.1 = t ∧ (∀ j, sd S a j = q.2.getD j 0) ∧ a < S.1.length := by
  unfold kd at h
  cases hq : S.1[a]? with
  | none => rw [hq] at h; simp at h; omega
  | some q =>
    rw [hq] at h
    refine ⟨q, rfl, h, fun j => ?_, (List.getElem?_eq_some_iff.mp hq).1⟩
    unfold sd
    rw [hq]
theorem zFl_get {f : Nat → Int32} {ci j : Nat} {dat : List Nat} (h : j < dat.length) : (zFl ad f ci dat)[j]? = some (if ft ci j ≤ 1 then .int (f j) else if ft ci j ≤ 3 then .int (Int32.ofNat (dat.getD j 0)) else if dat.getD j 0 = 0 then .null else .ref (ad (dat.getD j 0 - 1))) := by
  unfold zFl
  rw [List.getElem?_map, List.getElem?_range h]
  rfl
theorem zFl_len {f : Nat → Int32} {ci : Nat} {dat : List Nat} : (zFl ad f ci dat).length = dat.length := by simp [zFl]
theorem zFl_setI {f : Nat → Int32} {ci j : Nat} {dat : List Nat} {v : Int32} (hf : ft ci j ≤ 1) : (zFl ad f ci dat).set j (.int v) = zFl ad (upd f j v) ci dat := by
  apply List.ext_getElem?
  intro i
  by_cases hi : i < dat.length
  · by_cases e : i = j
    · subst e
      rw [List.getElem?_set_self (by rw [zFl_len]; exact hi), zFl_get hi, if_pos hf]
      simp [upd]
    · rw [List.getElem?_set_ne (fun q => e q.symm), zFl_get hi, zFl_get hi]
      simp [upd, e]
  · rw [List.getElem?_eq_none (by simp [zFl_len]; omega), List.getElem?_eq_none (by simp [zFl_len]; omega)]
theorem zFl_setS {f : Nat → Int32} {ci j d : Nat} {dat : List Nat} {v : Value} (hv : v = if ft ci j ≤ 1 then .int (f j) else if ft ci j ≤ 3 then .int (Int32.ofNat d) else if d = 0 then .null else .ref (ad (d - 1))) : (zFl ad f ci dat).set j v = zFl ad f ci (dat.set j d) := by
  apply List.ext_getElem?
  intro i
  by_cases hi : i < dat.length
  · by_cases e : i = j
    · subst e
      rw [List.getElem?_set_self (by rw [zFl_len]; exact hi), zFl_get (by simpa using hi), hv]
      simp [List.getD_eq_getElem?_getD, hi]
    · rw [List.getElem?_set_ne (fun q => e q.symm), zFl_get hi, zFl_get (by simpa using hi)]
      simp [List.getD_eq_getElem?_getD, List.getElem?_set_ne (fun q => e (Eq.symm q))]
  · rw [List.getElem?_eq_none (by simp [zFl_len]; omega), List.getElem?_eq_none (by simp [zFl_len]; omega)]
theorem zFl_same {ad' : Nat → Nat} {f : Nat → Int32} {ci n : Nat} {dat : List Nat} (ha : ∀ a, a < n → ad' a = ad a) (hd : ∀ j, j < dat.length → 4 ≤ ft ci j → dat.getD j 0 ≤ n) : zFl ad' f ci dat = zFl ad f ci dat := by
  apply List.ext_getElem?
  intro i
  by_cases hi : i < dat.length
  · rw [zFl_get hi, zFl_get hi]
    by_cases h3 : ft ci i ≤ 3
    · by_cases h1 : ft ci i ≤ 1 <;> simp [h1, h3]
    · have h1 : ¬ ft ci i ≤ 1 := by omega
      have h2 := hd i hi (by omega)
      by_cases h0 : dat.getD i 0 = 0
      · rw [if_neg h1, if_neg h1, if_neg h3, if_neg h3, if_pos h0, if_pos h0]
      · rw [if_neg h1, if_neg h1, if_neg h3, if_neg h3, if_neg h0, if_neg h0, ha _ (by omega)]
  · rw [List.getElem?_eq_none (by simp [zFl_len]; omega), List.getElem?_eq_none (by simp [zFl_len]; omega)]
theorem zE_arr {a : Nat} {q : Nat × List Nat} (h : q.1 ≤ 1) : zE ad cA F a q = .inl (cA a, q.2.getD 0 0, .inl (F a)) := by unfold zE; rw [if_pos h]
theorem zE_obj {a ci : Nat} {q : Nat × List Nat} (h : q.1 = ci + 2) : zE ad cA F a q = .inr (ci, zFl ad (F a) ci q.2) := by
  unfold zE
  rw [if_neg (by omega), show q.1 - 2 = ci by omega]
def zFu (F : Nat → Nat → Int32) (a j : Nat) (v : Int32) : Nat → Nat → Int32 := fun a' => if a' = a then upd (F a) j v else F a'
theorem zE_ne {a a' j : Nat} {v : Int32} {q : Nat × List Nat} (h : a' ≠ a) : zE ad cA (zFu F a j v) a' q = zE ad cA F a' q := by
  unfold zE zFu
  rw [if_neg h]
/-- an int of a cell is written -/
theorem zWo_set {locs' : List Loc} {a j : Nat} {v : Int32} {x : Int} {H1 : Heap} {tys : List (ClassId × FieldType)} {ws : va_W} {e1 : va_E} {q : Nat × List Nat} (W0 : zWo D base b xs ad cA F S I s H) (hq : S.1[a]? = some q) (hx : v.toInt = x) (he : e1 = zE ad cA (zFu F a j v) a q)
    (hK : va_K D vwCl tys s) (hty : ∀ (a : Nat) (q : Nat × List Nat), S.1[a]? = some q → (q.1 = 0 → ∃ t : Nat, tys[t]? = some (cA a, .int)) ∧ (q.1 = 1 → ∃ t : Nat, tys[t]? = some (cA a, .boolean))) (hws : ws.length = S.1.length) (hcell : ∀ (a : Nat) (q : Nat × List Nat), S.1[a]? = some q → ws[a]? = some (ad a, zE ad cA F a q))
    (hP : va_P D vwCl (ws.set a (ad a, e1)) H1) (hD : va_D (fun q => base ≤ q) (ws.set a (ad a, e1))) (hS0 : va_S (fun q => base ≤ q) s.heap H locs) (hS1 : va_S (fun q => base ≤ q) s.heap H1 locs') (hbs : base ≤ s.heap.size) : zWo D base b xs ad cA (zFu F a j v) S (up I a j x) s H1 := by
  obtain ⟨tys0, ws0, hK0, hP0, hD0, hsz, hbb, hX, hXl, hXv, hlen, hcell0, hI, hN⟩ := W0
  refine ⟨tys, ws.set a (ad a, e1), hK, hP, hD, ?_, hbb, ?_, hXl, hXv, by simpa using hws, ?_, ?_, hN⟩
  · have := hS1.1
    omega
  · refine hX.kept ?_
    have hbl : b < s.heap.size := by omega
    rw [hS1.2.1 b hbl (by omega), hS0.2.1 b hbl (by omega)]
  · intro a' q' hq'
    refine ⟨?_, (hcell0 a' q' hq').2.1, hty a' q' hq'⟩
    by_cases e : a' = a
    · subst e
      have hlt : a' < ws.length := by rw [hws]; exact (List.getElem?_eq_some_iff.mp hq').1
      rw [List.getElem?_set_self hlt, he]
      rw [hq] at hq'
      cases hq'
      rfl
    · rw [List.getElem?_set_ne (fun z => e z.symm), hcell a' q' hq', zE_ne e]
  · intro a' j' ha'
    unfold up zFu
    by_cases e : a' = a
    · subst e
      by_cases e2 : j' = j
      · subst e2
        rw [if_pos ⟨rfl, rfl⟩, if_pos rfl, ← hx]
        simp [upd]
      · rw [if_neg (by rintro ⟨-, z⟩; exact e2 (by omega)), if_pos rfl, hI a' j' ha']
        simp [upd, e2]
    · rw [if_neg (by rintro ⟨z, -⟩; exact e z), if_neg e, hI a' j' ha']
/-- a field that never changes again, or a reference, is written -/
theorem zWo_ss {locs' : List Loc} {a j d ci : Nat} {H1 : Heap} {q : Nat × List Nat} {w : Value} (W0 : zWo D base b xs ad cA F S I s H) (hq : S.1[a]? = some q) (hci : q.1 = ci + 2) (hft : ¬ ft ci j ≤ 1) (hd3 : ft ci j ≤ 3 → d < 2147483648) (hd4 : 4 ≤ ft ci j → d ≤ S.1.length) (hw : w = if ft ci j ≤ 1 then .int (F a j) else if ft ci j ≤ 3 then .int (Int32.ofNat d) else if d = 0 then .null else .ref (ad (d - 1)))
    {tys : List (ClassId × FieldType)} {ws : va_W} (hK : va_K D vwCl tys s) (hty : ∀ (a : Nat) (q : Nat × List Nat), S.1[a]? = some q → (q.1 = 0 → ∃ t : Nat, tys[t]? = some (cA a, .int)) ∧ (q.1 = 1 → ∃ t : Nat, tys[t]? = some (cA a, .boolean))) (hws : ws.length = S.1.length) (hcell : ∀ (a : Nat) (q : Nat × List Nat), S.1[a]? = some q → ws[a]? = some (ad a, zE ad cA F a q))
    (hP : va_P D vwCl (ws.set a (ad a, .inr (ci, (zFl ad (F a) ci q.2).set j w))) H1) (hD : va_D (fun q => base ≤ q) (ws.set a (ad a, .inr (ci, (zFl ad (F a) ci q.2).set j w)))) (hS0 : va_S (fun q => base ≤ q) s.heap H locs) (hS1 : va_S (fun q => base ≤ q) s.heap H1 locs') (hbs : base ≤ s.heap.size) : zWo D base b xs ad cA F (ss S a j d) I s H1 := by
  obtain ⟨tys0, ws0, hK0, hP0, hD0, hsz, hbb, hX, hXl, hXv, hlen, hcell0, hI, hN⟩ := W0
  have hl : (ss S a j d).1.length = S.1.length := by simp [ss]
  have hg : ∀ a', (ss S a j d).1[a']? = if a' = a then (S.1[a']?).map (fun q => (q.1, q.2.set j d)) else S.1[a']? := by
    intro a'
    simp only [ss, List.getElem?_modify]
    by_cases e : a' = a
    · subst e; simp
    · have : a ≠ a' := fun z => e z.symm
      simp [e, this]
  refine ⟨tys, _, hK, hP, hD, ?_, hbb, ?_, hXl, hXv, by rw [hl]; simpa using hws, ?_, fun a' j' ha' => hI a' j' (by rw [hl] at ha'; exact ha'), hN⟩
  · have := hS1.1
    omega
  · refine hX.kept ?_
    have hbl : b < s.heap.size := by omega
    rw [hS1.2.1 b hbl (by omega), hS0.2.1 b hbl (by omega)]
  · intro a' q' hq'
    rw [hg a'] at hq'
    by_cases e : a' = a
    · subst e
      rw [if_pos rfl, hq] at hq'
      have hq2 : q' = (q.1, q.2.set j d) := (Option.some.inj hq').symm
      subst hq2
      have hlt : a' < ws.length := by rw [hws]; exact (List.getElem?_eq_some_iff.mp hq).1
      refine ⟨?_, ?_, fun z => ?_, fun z => ?_⟩
      · rw [List.getElem?_set_self hlt, zE_obj (ci := ci) (q := (q.1, q.2.set j d)) hci, zFl_setS hw]
      · have h1 := (hcell0 a' q hq).2.1
        rcases h1 with h1 | ⟨h1, h2, h3, h4⟩
        · exact absurd h1.1 (by omega)
        · refine Or.inr ⟨h1, h2, by simpa using h3, fun i hi => ?_⟩
          have e0 : q.1 - 2 = ci := by omega
          have hi' : i < q.2.length := by simpa using hi
          have h5 := h4 i hi'
          rw [hl]
          dsimp only at *
          rw [e0] at h5 ⊢
          by_cases ei : i = j
          · subst ei
            have : (q.2.set i d).getD i 0 = d := by simp [List.getD_eq_getElem?_getD, hi']
            rw [this]
            exact ⟨hd3, hd4⟩
          · have : (q.2.set j d).getD i 0 = q.2.getD i 0 := by simp [List.getD_eq_getElem?_getD, List.getElem?_set_ne (fun z => ei (Eq.symm z))]
            rw [this]
            exact h5
      · exact absurd z (by dsimp only; omega)
      · exact absurd z (by dsimp only; omega)
    · rw [if_neg e] at hq'
      refine ⟨?_, ?_, hty a' q' hq'⟩
      · rw [List.getElem?_set_ne (fun z => e z.symm)]
        exact hcell a' q' hq'
      · rw [hl]
        exact (hcell0 a' q' hq').2.1
/-- a cell is made -/
theorem zWo_push {locs' : List Loc} {q0 : Nat × List Nat} {qa : Nat} {cA0 : ClassId} {H1 : Heap} {tys tys1 : List (ClassId × FieldType)} {ws : va_W} {e1 : va_E} (W0 : zWo D base b xs ad cA F S I s H)
    (hK : va_K D vwCl tys1 s) (hsub : ∀ (t : Nat) (x : ClassId × FieldType), tys[t]? = some x → tys1[t]? = some x) (hty : ∀ (a : Nat) (q : Nat × List Nat), S.1[a]? = some q → (q.1 = 0 → ∃ t : Nat, tys[t]? = some (cA a, .int)) ∧ (q.1 = 1 → ∃ t : Nat, tys[t]? = some (cA a, .boolean)))
    (hty0 : (q0.1 = 0 → ∃ t : Nat, tys1[t]? = some (cA0, .int)) ∧ (q0.1 = 1 → ∃ t : Nat, tys1[t]? = some (cA0, .boolean))) (hws : ws.length = S.1.length) (hcell : ∀ (a : Nat) (q : Nat × List Nat), S.1[a]? = some q → ws[a]? = some (ad a, zE ad cA F a q))
    (hP : va_P D vwCl (ws ++ [(qa, e1)]) H1) (hD : va_D (fun q => base ≤ q) (ws ++ [(qa, e1)])) (hS0 : va_S (fun q => base ≤ q) s.heap H locs) (hS1 : va_S (fun q => base ≤ q) s.heap H1 locs') (hbs : base ≤ s.heap.size)
    (he : e1 = zE (fun a => if a = S.1.length then qa else ad a) (fun a => if a = S.1.length then cA0 else cA a) (fun a => if a = S.1.length then fun _ => 0 else F a) S.1.length q0) (hwf : zWf q0 (S.1.length + 1)) :
    zWo D base b xs (fun a => if a = S.1.length then qa else ad a) (fun a => if a = S.1.length then cA0 else cA a) (fun a => if a = S.1.length then fun _ => 0 else F a) (sp S q0) (cz I S.1.length) s H1 := by
  obtain ⟨tys0, ws0, hK0, hP0, hD0, hsz, hbb, hX, hXl, hXv, hlen, hcell0, hI, hN⟩ := W0
  have hl : (sp S q0).1.length = S.1.length + 1 := by simp [sp]
  refine ⟨tys1, _, hK, hP, hD, ?_, hbb, ?_, hXl, hXv, by rw [hl]; simp [hws], ?_, ?_, hN⟩
  · have := hS1.1
    omega
  · refine hX.kept ?_
    have hbl : b < s.heap.size := by omega
    rw [hS1.2.1 b hbl (by omega), hS0.2.1 b hbl (by omega)]
  · intro a q hq
    by_cases ha : a < S.1.length
    · have hq' : S.1[a]? = some q := by
        simp only [sp] at hq
        rwa [List.getElem?_append_left ha] at hq
      have hne : a ≠ S.1.length := by omega
      obtain ⟨-, w2, -, -⟩ := hcell0 a q hq'
      refine ⟨?_, ?_, fun z => ?_, fun z => ?_⟩
      · rw [List.getElem?_append_left (by omega), hcell a q hq']
        dsimp only
        rw [if_neg hne]
        congr 2
        unfold zE
        dsimp only
        rw [if_neg hne, if_neg hne]
        by_cases h1 : q.1 ≤ 1
        · rw [if_pos h1, if_pos h1]
        · rw [if_neg h1, if_neg h1]
          rcases w2 with w2 | ⟨-, -, -, w4⟩
          · exact absurd w2.1 h1
          · rw [zFl_same (ad := ad) (ad' := fun a => if a = S.1.length then qa else ad a) (n := S.1.length) (fun a' ha' => by simp [show a' ≠ S.1.length by omega]) (fun j hj h4 => (w4 j hj).2 h4)]
      · rw [hl]
        rcases w2 with w2 | ⟨w1, w2, w3, w4⟩
        · exact Or.inl w2
        · exact Or.inr ⟨w1, w2, w3, fun j hj => ⟨(w4 j hj).1, fun h4 => by have := (w4 j hj).2 h4; omega⟩⟩
      · obtain ⟨t, ht⟩ := (hty a q hq').1 z
        exact ⟨t, by dsimp only; rw [if_neg hne]; exact hsub _ _ ht⟩
      · obtain ⟨t, ht⟩ := (hty a q hq').2 z
        exact ⟨t, by dsimp only; rw [if_neg hne]; exact hsub _ _ ht⟩
    · have ha2 : a = S.1.length := by
        have := (List.getElem?_eq_some_iff.mp hq).1
        rw [hl] at this
        omega
      subst ha2
      have hq0 : q = q0 := by
        simp [sp] at hq
        exact hq.symm
      subst hq0
      refine ⟨?_, by rw [hl]; exact hwf, fun z => ?_, fun z => ?_⟩
      · rw [List.getElem?_append_right (by omega), hws, Nat.sub_self, he]
        simp
      · obtain ⟨t, ht⟩ := hty0.1 z
        exact ⟨t, by dsimp only; rw [if_pos rfl]; exact ht⟩
      · obtain ⟨t, ht⟩ := hty0.2 z
        exact ⟨t, by dsimp only; rw [if_pos rfl]; exact ht⟩
  · intro a j ha
    unfold cz
    dsimp only
    by_cases e : a = S.1.length
    · rw [if_pos e, if_pos e]; rfl
    · rw [if_neg e, if_neg e]
      exact hI a j (by rw [hl] at ha; omega)
theorem zn_getfield {i : Nat} {len pc' : Nat} {ml' mst' : List zV} {S' : zS} {I' : zM} (Cx : zCx k R p s m args meth c) (hbs : base ≤ s.heap.size) (hdg : decode (bk k) pc = .ok (.getfield i, len)) (h : sti k pc ml mst S I len (.getfield i) = some (.inl (pc', ml', mst', S', I'))) (W0 : zWo D base b xs ad cA F S I s H) (hS : va_S (fun q => base ≤ q) s.heap H locs) (hL : zLr b ad S.1.length (lk k) (hk k) ls ml) (hT : zSr b ad S.1.length mst st) (hc : cells + (S'.1.length - S.1.length) ≤ R.cells) (hs : slots + (zsl S' - zsl S) ≤ R.slots)
    (kk : zK D base b xs k p l e R s m args below meth c Q S S' I' ad cells slots pc' ml' mst') : W p l e R s m args below meth c H locs cells slots Q (F0 m pc ls st) := by
  obtain ⟨hx, hb, hml, hown, hts, hRf, hRl, hni⟩ := Cx
  simp only [sti] at h
  split at h
  · rename_i h0
    subst h0
    split at h
    · rename_i q0 hv
      obtain ⟨ci, j⟩ := q0
      simp only [zgf] at h
      split at h
      · rename_i a r
        split at h
        · rename_i hkd
          obtain ⟨li, hlink, hci, hj⟩ := zfd_of hv
          obtain ⟨q, hq, hq1, hsd, halt⟩ := kd_some hkd (by omega)
          obtain ⟨tys, ws, hK, hP, hD, hsz, hbb, hX, hXl, hXv, hlen, hcell, hI, hN⟩ := id W0
          obtain ⟨c1, c2, c3, c4⟩ := hcell a q hq
          rw [zE_obj hq1] at c1
          obtain ⟨st', rfl, ha, hq2⟩ := zSr_r hT
          have hcN := (zt_ty0 ci hci).1
          have hdl : j < q.2.length := by
            rcases c2 with c2 | ⟨-, -, c2, -⟩
            · omega
            · rw [c2, show q.1 - 2 = ci by omega, ← hcN]; exact hj
          have hval := zFl_get (ad := ad) (f := F a) (ci := ci) hdl
          have go := fun (v : Value) (hv : (zFl ad (F a) ci q.2)[j]? = some v) => va_get (D := D) (l := l) (e := e) (R := R) (below := below) (meth := meth) (locs := locs) (cells := cells) (slots := slots) (Q := Q) (ls := ls) (rest := st') (C := cR ci) (T := cT ci) (N := cN ci) hx hb hts (zt_wsg ci hci) hown hK hP a c1 (zt_cls ci hci) j hj (hts _ (zt_gp hlink rfl)) (fun _ z => z) hv hdg
          split at h
          · rename_i hf
            simp only [nx, Option.some.injEq, Sum.inl.injEq, Prod.mk.injEq] at h
            obtain ⟨rfl, rfl, rfl, rfl, rfl⟩ := h
            rw [if_pos hf] at hval
            exact go _ hval (kk.go W0 hS hL ⟨⟨_, rfl, (hI a j halt).symm⟩, hq2⟩)
          · rename_i hf
            rw [if_neg hf] at hval
            split at h
            · rename_i hf2
              simp only [nx, Option.some.injEq, Sum.inl.injEq, Prod.mk.injEq] at h
              obtain ⟨rfl, rfl, rfl, rfl, rfl⟩ := h
              rw [if_pos hf2] at hval
              refine go _ hval (kk.go W0 hS hL ⟨⟨_, rfl, ?_⟩, hq2⟩)
              rw [hsd]
              rcases c2 with c2 | ⟨-, -, -, c2⟩
              · omega
              · exact zi_nat ((c2 j hdl).1 (by rw [show q.1 - 2 = ci by omega]; exact hf2))
            · rename_i hf2
              rw [if_neg hf2] at hval
              split at h
              · rename_i hf3
                simp only [nx, Option.some.injEq, Sum.inl.injEq, Prod.mk.injEq] at h
                obtain ⟨rfl, rfl, rfl, rfl, rfl⟩ := h
                rw [hsd] at hf3
                rw [if_neg (by omega)] at hval
                refine go _ hval (kk.go W0 hS hL ⟨⟨by rw [hsd], ?_⟩, hq2⟩)
                rw [hsd]
                rcases c2 with c2 | ⟨-, -, -, c2⟩
                · omega
                · have := (c2 j hdl).2 (by rw [show q.1 - 2 = ci by omega]; omega)
                  omega
              · cases h
        · cases h
      · cases h
    · cases h
  · cases h
theorem zt_cn0 : ∀ ci, ci < 13 → cn ci = cR ci := by decide +kernel
theorem zt_cn (k : Nat) {ci : Nat} (hok : ok k = ci) (hci : ci < 13) : cn (ok k) = cR (ok k) := by rw [hok]; exact zt_cn0 ci hci
theorem zn_putfield {i : Nat} {len pc' : Nat} {ml' mst' : List zV} {S' : zS} {I' : zM} (Cx : zCx k R p s m args meth c) (hbs : base ≤ s.heap.size) (hdg : decode (bk k) pc = .ok (.putfield i, len)) (h : sti k pc ml mst S I len (.putfield i) = some (.inl (pc', ml', mst', S', I'))) (W0 : zWo D base b xs ad cA F S I s H) (hS : va_S (fun q => base ≤ q) s.heap H locs) (hL : zLr b ad S.1.length (lk k) (hk k) ls ml) (hT : zSr b ad S.1.length mst st) (hc : cells + (S'.1.length - S.1.length) ≤ R.cells) (hs : slots + (zsl S' - zsl S) ≤ R.slots)
    (kk : zK D base b xs k p l e R s m args below meth c Q S S' I' ad cells slots pc' ml' mst') : W p l e R s m args below meth c H locs cells slots Q (F0 m pc ls st) := by
  obtain ⟨hx, hb, hml, hown, hts, hRf, hRl, hni⟩ := Cx
  simp only [sti] at h
  split at h
  · rename_i h0
    subst h0
    split at h
    · rename_i q0 hv
      obtain ⟨ci, j⟩ := q0
      simp only [zpf] at h
      split at h
      · rename_i x a r
        split at h
        · rename_i hkd
          obtain ⟨li, hlink, hci, hj⟩ := zfd_of hv
          obtain ⟨q, hq, hq1, hsd, halt⟩ := kd_some hkd (by omega)
          obtain ⟨tys, ws, hK, hP, hD, hsz, hbb, hX, hXl, hXv, hlen, hcell, hI, hN⟩ := id W0
          obtain ⟨c1, c2, c3, c4⟩ := hcell a q hq
          rw [zE_obj hq1] at c1
          have hcN := (zt_ty0 ci hci).1
          have hdl : j < q.2.length := by
            rcases c2 with c2 | ⟨-, -, c2, -⟩
            · omega
            · rw [c2, show q.1 - 2 = ci by omega, ← hcN]; exact hj
          obtain ⟨y1, y2, y3, y4, y5, y6, y7⟩ := (zt_ty0 ci hci).2 j (by rw [← hcN]; exact hj)
          have hl2 : j < (zFl ad (F a) ci q.2).length := by rw [zFl_len]; exact hdl
          have hcc : ∀ (a : Nat) (q : Nat × List Nat), S.1[a]? = some q → ws[a]? = some (ad a, zE ad cA F a q) := fun a q z => (hcell a q z).1
          have hct : ∀ (a : Nat) (q : Nat × List Nat), S.1[a]? = some q → (q.1 = 0 → ∃ t : Nat, tys[t]? = some (cA a, .int)) ∧ (q.1 = 1 → ∃ t : Nat, tys[t]? = some (cA a, .boolean)) := fun a q z => (hcell a q z).2.2
          have hpar := zt_ty ci hci j hj
          obtain ⟨w, st', rfl, hw, hq2⟩ := zSr_i hT
          obtain ⟨st'', rfl, ha, hq3⟩ := zSr_r hq2
          split at h
          · rename_i hf
            simp only [nx, Option.some.injEq, Sum.inl.injEq, Prod.mk.injEq] at h
            obtain ⟨rfl, rfl, rfl, rfl, rfl⟩ := h
            refine va_put (D := D) (C := cR ci) (T := cT ci) (N := cN ci) hx hb hts (zt_wsg ci hci) (cty ci) (zt_ty ci hci) (zt_nm ci hci) hown hK hP hD hS a c1 (zt_cls ci hci) j hj (hts _ (zt_gp hlink rfl)) (fun _ z => z) (by rw [y4]; simp [hf]) (by rw [hpar, y5 (Or.inl hf)]) rfl rfl hl2 hdg (fun H1 locs1 hP1 hD1 hS1 => ?_)
            rw [zFl_setI (by omega)] at hP1 hD1
            have W1 := zWo_set (j := j) (v := w) W0 hq hw (by rw [zE_obj hq1]; simp [zFu]) hK hct hlen hcc hP1 hD1 hS hS1 hbs
            have := kk ad cA _ H1 locs1 ls st'' W1 hS1 hL hq3 (fun _ _ => rfl)
            simpa using this
          · rename_i hf
            split at h
            · rename_i hf1
              split at h
              · rename_i hx01
                simp only [nx, Option.some.injEq, Sum.inl.injEq, Prod.mk.injEq] at h
                obtain ⟨rfl, rfl, rfl, rfl, rfl⟩ := h
                have hw01 : w = 0 ∨ w = 1 := by
                  rcases hx01 with z | z
                  · exact Or.inl (Int32.toInt_inj.mp (by rw [hw, z]; rfl))
                  · exact Or.inr (Int32.toInt_inj.mp (by rw [hw, z]; rfl))
                refine va_put (D := D) (C := cR ci) (T := cT ci) (N := cN ci) hx hb hts (zt_wsg ci hci) (cty ci) (zt_ty ci hci) (zt_nm ci hci) hown hK hP hD hS a c1 (zt_cls ci hci) j hj (hts _ (zt_gp hlink rfl)) (fun _ z => z) (by rw [y4]; simp [hf1]) (ty := .boolean) (by rw [hpar, y6 (Or.inl hf1)]) (by rcases hw01 with rfl | rfl <;> rfl) (by rcases hw01 with rfl | rfl <;> rfl) hl2 hdg (fun H1 locs1 hP1 hD1 hS1 => ?_)
                rw [zFl_setI (by omega)] at hP1 hD1
                have W1 := zWo_set (j := j) (v := w) W0 hq hw (by rw [zE_obj hq1]; simp [zFu]) hK hct hlen hcc hP1 hD1 hS hS1 hbs
                have := kk ad cA _ H1 locs1 ls st'' W1 hS1 hL hq3 (fun _ _ => rfl)
                simpa using this
              · cases h
            · rename_i hf1
              have hwr := zi_rg w
              split at h
              · rename_i hf2
                simp only [nx, Option.some.injEq, Sum.inl.injEq, Prod.mk.injEq] at h
                obtain ⟨rfl, rfl, rfl, rfl, rfl⟩ := h
                obtain ⟨hf2, hx0, hik, hok⟩ := hf2
                refine va_putF (D := D) (C := cR ci) (T := cT ci) (N := cN ci) hx hb hts (zt_wsg ci hci) (cty ci) (zt_ty ci hci) (zt_nm ci hci) hown hK hP hD hS a c1 (zt_cls ci hci) j hj (hts _ (zt_gp hlink rfl)) (fun _ z => z) (by rw [y4]; simp [hf2]) (hni hik) (by rw [y2, ← hok]; exact ((zt_cn k hok hci).symm)) (by rw [hpar, y5 (Or.inr hf2)]) rfl rfl hl2 hdg (fun H1 locs1 hP1 hD1 hS1 => ?_)
                have W1 := zWo_ss (j := j) (d := x.toNat) (w := .int w) W0 hq hq1 (by omega) (fun _ => by omega) (fun z => by omega) (by rw [if_neg (by omega), if_pos (by omega)]; congr 1; apply Int32.toInt_inj.mp; rw [zi_nat (by omega)]; omega) hK hct hlen hcc hP1 hD1 hS hS1 hbs
                have hl3 : (ss S a j x.toNat).1.length = S.1.length := by simp [ss]
                exact W.widen (by omega) (by omega) (kk ad cA F H1 locs1 ls st'' W1 hS1 (by rw [hl3]; exact hL) (by rw [hl3]; exact hq3) (fun _ _ => rfl))
              · split at h
                · rename_i hf2
                  simp only [nx, Option.some.injEq, Sum.inl.injEq, Prod.mk.injEq] at h
                  obtain ⟨rfl, rfl, rfl, rfl, rfl⟩ := h
                  obtain ⟨hf2, hx01, hik, hok⟩ := hf2
                  have hw01 : w = 0 ∨ w = 1 := by
                    rcases hx01 with z | z
                    · exact Or.inl (Int32.toInt_inj.mp (by rw [hw, z]; rfl))
                    · exact Or.inr (Int32.toInt_inj.mp (by rw [hw, z]; rfl))
                  refine va_putF (D := D) (C := cR ci) (T := cT ci) (N := cN ci) hx hb hts (zt_wsg ci hci) (cty ci) (zt_ty ci hci) (zt_nm ci hci) hown hK hP hD hS a c1 (zt_cls ci hci) j hj (hts _ (zt_gp hlink rfl)) (fun _ z => z) (by rw [y4]; simp [hf2]) (hni hik) (by rw [y2, ← hok]; exact ((zt_cn k hok hci).symm)) (ty := .boolean) (by rw [hpar, y6 (Or.inr hf2)]) (by rcases hw01 with rfl | rfl <;> rfl) (by rcases hw01 with rfl | rfl <;> rfl) hl2 hdg (fun H1 locs1 hP1 hD1 hS1 => ?_)
                  have W1 := zWo_ss (j := j) (d := x.toNat) (w := .int w) W0 hq hq1 (by omega) (fun _ => by omega) (fun z => by omega) (by rw [if_neg (by omega), if_pos (by omega)]; congr 1; apply Int32.toInt_inj.mp; rw [zi_nat (by omega)]; omega) hK hct hlen hcc hP1 hD1 hS hS1 hbs
                  have hl3 : (ss S a j x.toNat).1.length = S.1.length := by simp [ss]
                  exact W.widen (by omega) (by omega) (kk ad cA F H1 locs1 ls st'' W1 hS1 (by rw [hl3]; exact hL) (by rw [hl3]; exact hq3) (fun _ _ => rfl))
                · cases h
        · cases h
      · rename_i b0 a r
        split at h
        · rename_i hkd
          obtain ⟨li, hlink, hci, hj⟩ := zfd_of hv
          obtain ⟨q, hq, hq1, hsd, halt⟩ := kd_some hkd (by omega)
          obtain ⟨tys, ws, hK, hP, hD, hsz, hbb, hX, hXl, hXv, hlen, hcell, hI, hN⟩ := id W0
          obtain ⟨c1, c2, c3, c4⟩ := hcell a q hq
          rw [zE_obj hq1] at c1
          have hcN := (zt_ty0 ci hci).1
          have hdl : j < q.2.length := by
            rcases c2 with c2 | ⟨-, -, c2, -⟩
            · omega
            · rw [c2, show q.1 - 2 = ci by omega, ← hcN]; exact hj
          obtain ⟨y1, y2, y3, y4, y5, y6, y7⟩ := (zt_ty0 ci hci).2 j (by rw [← hcN]; exact hj)
          have hl2 : j < (zFl ad (F a) ci q.2).length := by rw [zFl_len]; exact hdl
          have hcc : ∀ (a : Nat) (q : Nat × List Nat), S.1[a]? = some q → ws[a]? = some (ad a, zE ad cA F a q) := fun a q z => (hcell a q z).1
          have hct : ∀ (a : Nat) (q : Nat × List Nat), S.1[a]? = some q → (q.1 = 0 → ∃ t : Nat, tys[t]? = some (cA a, .int)) ∧ (q.1 = 1 → ∃ t : Nat, tys[t]? = some (cA a, .boolean)) := fun a q z => (hcell a q z).2.2
          have hpar := zt_ty ci hci j hj
          obtain ⟨st', rfl, hb0, hq2⟩ := zSr_r hT
          obtain ⟨st'', rfl, ha, hq3⟩ := zSr_r hq2
          have hl3 : (ss S a j (b0 + 1)).1.length = S.1.length := by simp [ss]
          have hrt : 4 ≤ ft ci j → narrow (cty ci j) (.ref (ad b0)) = .ref (ad b0) ∧ fits (cty ci j) (.ref (ad b0)) = true := by
            intro z
            have z1 := y7 z
            cases hcty : cty ci j <;> rw [hcty] at z1 <;> first | exact ⟨rfl, rfl⟩ | cases z1
          split at h
          · rename_i hf
            obtain ⟨hf, hik, hok⟩ := hf
            simp only [nx, Option.some.injEq, Sum.inl.injEq, Prod.mk.injEq] at h
            obtain ⟨rfl, rfl, rfl, rfl, rfl⟩ := h
            refine va_putF (D := D) (C := cR ci) (T := cT ci) (N := cN ci) hx hb hts (zt_wsg ci hci) (cty ci) (zt_ty ci hci) (zt_nm ci hci) hown hK hP hD hS a c1 (zt_cls ci hci) j hj (hts _ (zt_gp hlink rfl)) (fun _ z => z) (by rw [y4]; simp [hf]) (hni hik) (by rw [y2, ← hok]; exact ((zt_cn k hok hci).symm)) hpar (hrt (by omega)).1 (hrt (by omega)).2 hl2 hdg (fun H1 locs1 hP1 hD1 hS1 => ?_)
            have W1 := zWo_ss (j := j) (d := b0 + 1) (w := .ref (ad b0)) W0 hq hq1 (by omega) (fun z => by omega) (fun z => by omega) (by rw [if_neg (by omega), if_neg (by omega), if_neg (by omega)]; rfl) hK hct hlen hcc hP1 hD1 hS hS1 hbs
            exact W.widen (by omega) (by omega) (kk ad cA F H1 locs1 ls st'' W1 hS1 (by rw [hl3]; exact hL) (by rw [hl3]; exact hq3) (fun _ _ => rfl))
          · split at h
            · rename_i hf
              simp only [nx, Option.some.injEq, Sum.inl.injEq, Prod.mk.injEq] at h
              obtain ⟨rfl, rfl, rfl, rfl, rfl⟩ := h
              refine va_put (D := D) (C := cR ci) (T := cT ci) (N := cN ci) hx hb hts (zt_wsg ci hci) (cty ci) (zt_ty ci hci) (zt_nm ci hci) hown hK hP hD hS a c1 (zt_cls ci hci) j hj (hts _ (zt_gp hlink rfl)) (fun _ z => z) (by rw [y4]; simp [hf]) hpar (hrt (by omega)).1 (hrt (by omega)).2 hl2 hdg (fun H1 locs1 hP1 hD1 hS1 => ?_)
              have W1 := zWo_ss (j := j) (d := b0 + 1) (w := .ref (ad b0)) W0 hq hq1 (by omega) (fun z => by omega) (fun z => by omega) (by rw [if_neg (by omega), if_neg (by omega), if_neg (by omega)]; rfl) hK hct hlen hcc hP1 hD1 hS hS1 hbs
              exact W.widen (by omega) (by omega) (kk ad cA F H1 locs1 ls st'' W1 hS1 (by rw [hl3]; exact hL) (by rw [hl3]; exact hq3) (fun _ _ => rfl))
            · cases h
        · cases h
      · cases h
    · cases h
  · cases h
theorem zn_iaload {len pc' : Nat} {ml' mst' : List zV} {S' : zS} {I' : zM} (Cx : zCx k R p s m args meth c) (hbs : base ≤ s.heap.size) (hdg : decode (bk k) pc = .ok (.iaload, len)) (h : sti k pc ml mst S I len (.iaload) = some (.inl (pc', ml', mst', S', I'))) (W0 : zWo D base b xs ad cA F S I s H) (hS : va_S (fun q => base ≤ q) s.heap H locs) (hL : zLr b ad S.1.length (lk k) (hk k) ls ml) (hT : zSr b ad S.1.length mst st) (hc : cells + (S'.1.length - S.1.length) ≤ R.cells) (hs : slots + (zsl S' - zsl S) ≤ R.slots)
    (kk : zK D base b xs k p l e R s m args below meth c Q S S' I' ad cells slots pc' ml' mst') : W p l e R s m args below meth c H locs cells slots Q (F0 m pc ls st) := by
  obtain ⟨hx, hb, hml, hown, hts, hRf, hRl, hni⟩ := Cx
  simp only [sti] at h
  split at h
  · rename_i h0
    subst h0
    simp only [zal] at h
    split at h
    · rename_i j a r
      split at h
      · rename_i h0
        obtain ⟨hkd, hj0, hj1⟩ := h0
        simp only [nx, Option.some.injEq, Sum.inl.injEq, Prod.mk.injEq] at h
        obtain ⟨rfl, rfl, rfl, rfl, rfl⟩ := h
        obtain ⟨q, hq, hq1, hsd, halt⟩ := kd_some hkd (by omega)
        obtain ⟨tys, ws, hK, hP, hD, hsz, hbb, hX, hXl, hXv, hlen, hcell, hI, hN⟩ := id W0
        obtain ⟨c1, c2, c3, c4⟩ := hcell a q hq
        rw [zE_arr (by omega)] at c1
        obtain ⟨t0, ht0⟩ := c3 hq1
        obtain ⟨i, st', rfl, rfl, hq2⟩ := zSr_i hT
        obtain ⟨st'', rfl, ha, hq3⟩ := zSr_r hq2
        rw [hsd] at hj1
        refine va_iald hx hb hK hP a t0 c1 ht0 (zi_in hj0 hj1) hdg (kk.go W0 hS hL ⟨⟨_, rfl, ?_⟩, hq3⟩)
        rw [← hI a _ halt, zi_clamp hj0]
      · cases h
    · rename_i j r
      split at h
      · rename_i h0
        obtain ⟨-, hj0, hj1⟩ := h0
        simp only [nx, Option.some.injEq, Sum.inl.injEq, Prod.mk.injEq] at h
        obtain ⟨rfl, rfl, rfl, rfl, rfl⟩ := h
        obtain ⟨tys, ws, hK, hP, hD, hsz, hbb, hX, hXl, hXv, hlen, hcell, hI, hN⟩ := id W0
        obtain ⟨i, st', rfl, rfl, hq2⟩ := zSr_i hT
        obtain ⟨st'', rfl, hq3⟩ := zSr_x hq2
        obtain ⟨scr, g1, g2, g3, g4, g5⟩ := hX
        have hin := zi_in hj0 hj1
        have hlt : i.toNatClampNeg < S.2.1 := Nat.not_le.mp fun q => hin (Or.inr q)
        refine W.iald (v := .int (xs i.toNatClampNeg)) hx hb g1 g2 g3 (by rw [g4]; exact hin) (g5 _ hlt) rfl rfl hdg (kk.go W0 hS hL ⟨⟨_, rfl, ?_⟩, hq3⟩)
        rw [← hXv _ hlt, zi_clamp hj0]
      · cases h
    · cases h
  · cases h
theorem zn_baload {len pc' : Nat} {ml' mst' : List zV} {S' : zS} {I' : zM} (Cx : zCx k R p s m args meth c) (hbs : base ≤ s.heap.size) (hdg : decode (bk k) pc = .ok (.baload, len)) (h : sti k pc ml mst S I len (.baload) = some (.inl (pc', ml', mst', S', I'))) (W0 : zWo D base b xs ad cA F S I s H) (hS : va_S (fun q => base ≤ q) s.heap H locs) (hL : zLr b ad S.1.length (lk k) (hk k) ls ml) (hT : zSr b ad S.1.length mst st) (hc : cells + (S'.1.length - S.1.length) ≤ R.cells) (hs : slots + (zsl S' - zsl S) ≤ R.slots)
    (kk : zK D base b xs k p l e R s m args below meth c Q S S' I' ad cells slots pc' ml' mst') : W p l e R s m args below meth c H locs cells slots Q (F0 m pc ls st) := by
  obtain ⟨hx, hb, hml, hown, hts, hRf, hRl, hni⟩ := Cx
  simp only [sti] at h
  split at h
  · rename_i h0
    subst h0
    simp only [zal] at h
    split at h
    · rename_i j a r
      split at h
      · rename_i h0
        obtain ⟨hkd, hj0, hj1⟩ := h0
        simp only [nx, Option.some.injEq, Sum.inl.injEq, Prod.mk.injEq] at h
        obtain ⟨rfl, rfl, rfl, rfl, rfl⟩ := h
        obtain ⟨q, hq, hq1, hsd, halt⟩ := kd_some hkd (by omega)
        obtain ⟨tys, ws, hK, hP, hD, hsz, hbb, hX, hXl, hXv, hlen, hcell, hI, hN⟩ := id W0
        obtain ⟨c1, c2, c3, c4⟩ := hcell a q hq
        rw [zE_arr (by omega)] at c1
        obtain ⟨t0, ht0⟩ := c4 hq1
        obtain ⟨i, st', rfl, rfl, hq2⟩ := zSr_i hT
        obtain ⟨st'', rfl, ha, hq3⟩ := zSr_r hq2
        rw [hsd] at hj1
        refine va_zald hx hb hK hP a t0 c1 ht0 (zi_in hj0 hj1) hdg (kk.go W0 hS hL ⟨⟨_, rfl, ?_⟩, hq3⟩)
        rw [← hI a _ halt, zi_clamp hj0]
      · cases h
    · rename_i j r
      split at h
      · rename_i h0
        exact absurd h0.1 (by omega)
      · cases h
    · cases h
  · cases h
theorem zn_iastore {len pc' : Nat} {ml' mst' : List zV} {S' : zS} {I' : zM} (Cx : zCx k R p s m args meth c) (hbs : base ≤ s.heap.size) (hdg : decode (bk k) pc = .ok (.iastore, len)) (h : sti k pc ml mst S I len (.iastore) = some (.inl (pc', ml', mst', S', I'))) (W0 : zWo D base b xs ad cA F S I s H) (hS : va_S (fun q => base ≤ q) s.heap H locs) (hL : zLr b ad S.1.length (lk k) (hk k) ls ml) (hT : zSr b ad S.1.length mst st) (hc : cells + (S'.1.length - S.1.length) ≤ R.cells) (hs : slots + (zsl S' - zsl S) ≤ R.slots)
    (kk : zK D base b xs k p l e R s m args below meth c Q S S' I' ad cells slots pc' ml' mst') : W p l e R s m args below meth c H locs cells slots Q (F0 m pc ls st) := by
  obtain ⟨hx, hb, hml, hown, hts, hRf, hRl, hni⟩ := Cx
  simp only [sti] at h
  split at h
  · rename_i h0
    subst h0
    simp only [zas] at h
    split at h
    · rename_i x j a r
      split at h
      · rename_i h0
        obtain ⟨hkd, hj0, hj1, hx01⟩ := h0
        simp only [nx, Option.some.injEq, Sum.inl.injEq, Prod.mk.injEq] at h
        obtain ⟨rfl, rfl, rfl, rfl, rfl⟩ := h
        obtain ⟨q, hq, hq1, hsd, halt⟩ := kd_some hkd (by omega)
        obtain ⟨tys, ws, hK, hP, hD, hsz, hbb, hX, hXl, hXv, hlen, hcell, hI, hN⟩ := id W0
        obtain ⟨c1, c2, c3, c4⟩ := hcell a q hq
        rw [zE_arr (by omega)] at c1
        obtain ⟨t0, ht0⟩ := c3 hq1
        obtain ⟨w, st1, rfl, rfl, hq2⟩ := zSr_i hT
        obtain ⟨i, st2, rfl, rfl, hq3⟩ := zSr_i hq2
        obtain ⟨st3, rfl, ha, hq4⟩ := zSr_r hq3
        rw [hsd] at hj1
        have hcc : ∀ (a : Nat) (q : Nat × List Nat), S.1[a]? = some q → ws[a]? = some (ad a, zE ad cA F a q) := fun a q z => (hcell a q z).1
        have hct : ∀ (a : Nat) (q : Nat × List Nat), S.1[a]? = some q → (q.1 = 0 → ∃ t : Nat, tys[t]? = some (cA a, .int)) ∧ (q.1 = 1 → ∃ t : Nat, tys[t]? = some (cA a, .boolean)) := fun a q z => (hcell a q z).2.2
        refine va_iast hx hb hK hP hD hS a t0 c1 ht0 (zi_in hj0 hj1) hdg (fun H1 locs1 hP1 hD1 hS1 => ?_)
        have W1 := zWo_set (j := i.toNatClampNeg) (v := w) W0 hq rfl (by rw [zE_arr (by omega)]; simp [zFu]) hK hct hlen hcc hP1 hD1 hS hS1 hbs
        rw [zi_clamp hj0] at W1
        have := kk ad cA _ H1 locs1 ls st3 W1 hS1 hL hq4 (fun _ _ => rfl)
        simpa using this
      · cases h
    · cases h
  · cases h
theorem zn_bastore {len pc' : Nat} {ml' mst' : List zV} {S' : zS} {I' : zM} (Cx : zCx k R p s m args meth c) (hbs : base ≤ s.heap.size) (hdg : decode (bk k) pc = .ok (.bastore, len)) (h : sti k pc ml mst S I len (.bastore) = some (.inl (pc', ml', mst', S', I'))) (W0 : zWo D base b xs ad cA F S I s H) (hS : va_S (fun q => base ≤ q) s.heap H locs) (hL : zLr b ad S.1.length (lk k) (hk k) ls ml) (hT : zSr b ad S.1.length mst st) (hc : cells + (S'.1.length - S.1.length) ≤ R.cells) (hs : slots + (zsl S' - zsl S) ≤ R.slots)
    (kk : zK D base b xs k p l e R s m args below meth c Q S S' I' ad cells slots pc' ml' mst') : W p l e R s m args below meth c H locs cells slots Q (F0 m pc ls st) := by
  obtain ⟨hx, hb, hml, hown, hts, hRf, hRl, hni⟩ := Cx
  simp only [sti] at h
  split at h
  · rename_i h0
    subst h0
    simp only [zas] at h
    split at h
    · rename_i x j a r
      split at h
      · rename_i h0
        obtain ⟨hkd, hj0, hj1, hx01⟩ := h0
        simp only [nx, Option.some.injEq, Sum.inl.injEq, Prod.mk.injEq] at h
        obtain ⟨rfl, rfl, rfl, rfl, rfl⟩ := h
        obtain ⟨q, hq, hq1, hsd, halt⟩ := kd_some hkd (by omega)
        obtain ⟨tys, ws, hK, hP, hD, hsz, hbb, hX, hXl, hXv, hlen, hcell, hI, hN⟩ := id W0
        obtain ⟨c1, c2, c3, c4⟩ := hcell a q hq
        rw [zE_arr (by omega)] at c1
        obtain ⟨t0, ht0⟩ := c4 hq1
        obtain ⟨w, st1, rfl, rfl, hq2⟩ := zSr_i hT
        obtain ⟨i, st2, rfl, rfl, hq3⟩ := zSr_i hq2
        obtain ⟨st3, rfl, ha, hq4⟩ := zSr_r hq3
        rw [hsd] at hj1
        have hcc : ∀ (a : Nat) (q : Nat × List Nat), S.1[a]? = some q → ws[a]? = some (ad a, zE ad cA F a q) := fun a q z => (hcell a q z).1
        have hct : ∀ (a : Nat) (q : Nat × List Nat), S.1[a]? = some q → (q.1 = 0 → ∃ t : Nat, tys[t]? = some (cA a, .int)) ∧ (q.1 = 1 → ∃ t : Nat, tys[t]? = some (cA a, .boolean)) := fun a q z => (hcell a q z).2.2
        refine va_zast hx hb hK hP hD hS a t0 c1 ht0 (zi_in hj0 hj1) hdg (fun H1 locs1 hP1 hD1 hS1 => ?_)
        have hw01 : w = 0 ∨ w = 1 := by
          rcases hx01 with z | z | z
          · omega
          · exact Or.inl (Int32.toInt_inj.mp (by rw [z]; rfl))
          · exact Or.inr (Int32.toInt_inj.mp (by rw [z]; rfl))
        have hnar : vp_nar .boolean w = w := by rcases hw01 with rfl | rfl <;> rfl
        rw [hnar] at hP1 hD1
        have W1 := zWo_set (j := i.toNatClampNeg) (v := w) W0 hq rfl (by rw [zE_arr (by omega)]; simp [zFu]) hK hct hlen hcc hP1 hD1 hS hS1 hbs
        rw [zi_clamp hj0] at W1
        have := kk ad cA _ H1 locs1 ls st3 W1 hS1 hL hq4 (fun _ _ => rfl)
        simpa using this
      · cases h
    · cases h
  · cases h
theorem zn_arraylength {len pc' : Nat} {ml' mst' : List zV} {S' : zS} {I' : zM} (Cx : zCx k R p s m args meth c) (hbs : base ≤ s.heap.size) (hdg : decode (bk k) pc = .ok (.arraylength, len)) (h : sti k pc ml mst S I len (.arraylength) = some (.inl (pc', ml', mst', S', I'))) (W0 : zWo D base b xs ad cA F S I s H) (hS : va_S (fun q => base ≤ q) s.heap H locs) (hL : zLr b ad S.1.length (lk k) (hk k) ls ml) (hT : zSr b ad S.1.length mst st) (hc : cells + (S'.1.length - S.1.length) ≤ R.cells) (hs : slots + (zsl S' - zsl S) ≤ R.slots)
    (kk : zK D base b xs k p l e R s m args below meth c Q S S' I' ad cells slots pc' ml' mst') : W p l e R s m args below meth c H locs cells slots Q (F0 m pc ls st) := by
  obtain ⟨hx, hb, hml, hown, hts, hRf, hRl, hni⟩ := Cx
  simp only [sti] at h
  split at h
  · rename_i a r
    split at h
    · rename_i h0
      obtain ⟨rfl, hkd⟩ := h0
      simp only [nx, Option.some.injEq, Sum.inl.injEq, Prod.mk.injEq] at h
      obtain ⟨rfl, rfl, rfl, rfl, rfl⟩ := h
      obtain ⟨q, hq, hq1, hsd, halt⟩ := kd_some (S := S) (a := a) rfl (by omega)
      obtain ⟨tys, ws, hK, hP, hD, hsz, hbb, hX, hXl, hXv, hlen, hcell, hI, hN⟩ := id W0
      obtain ⟨c1, c2, c3, c4⟩ := hcell a q hq
      rw [zE_arr (by omega)] at c1
      obtain ⟨st', rfl, ha, hq2⟩ := zSr_r hT
      have hz : ∃ (t0 : Nat) (ty : FieldType), tys[t0]? = some (cA a, ty) := by
        have : q.1 = 0 ∨ q.1 = 1 := by omega
        rcases this with z | z
        · obtain ⟨t, ht⟩ := c3 z; exact ⟨t, _, ht⟩
        · obtain ⟨t, ht⟩ := c4 z; exact ⟨t, _, ht⟩
      obtain ⟨t0, ty, ht0⟩ := hz
      refine va_alen hx hb hK hP a t0 c1 ht0 rfl hdg (kk.go W0 hS hL ⟨⟨_, rfl, ?_⟩, hq2⟩)
      rw [hsd]
      rcases c2 with c2 | c2
      · exact zi_nat c2.2
      · omega
    · cases h
  · rename_i r
    split at h
    · rename_i h0
      subst h0
      simp only [nx, Option.some.injEq, Sum.inl.injEq, Prod.mk.injEq] at h
      obtain ⟨rfl, rfl, rfl, rfl, rfl⟩ := h
      obtain ⟨tys, ws, hK, hP, hD, hsz, hbb, hX, hXl, hXv, hlen, hcell, hI, hN⟩ := id W0
      obtain ⟨st', rfl, hq2⟩ := zSr_x hT
      obtain ⟨scr, g1, g2, g3, g4, g5⟩ := hX
      exact W.alen (n := Int32.ofNat S.2.1) hx hb g1 g2 (by rw [g4] <;> rfl) rfl rfl hdg (kk.go W0 hS hL ⟨⟨_, rfl, zi_nat hXl⟩, hq2⟩)
    · cases h
  · cases h
theorem zn_new {i : Nat} {len pc' : Nat} {ml' mst' : List zV} {S' : zS} {I' : zM} (Cx : zCx k R p s m args meth c) (hbs : base ≤ s.heap.size) (hdg : decode (bk k) pc = .ok (.new i, len)) (h : sti k pc ml mst S I len (.new i) = some (.inl (pc', ml', mst', S', I'))) (W0 : zWo D base b xs ad cA F S I s H) (hS : va_S (fun q => base ≤ q) s.heap H locs) (hL : zLr b ad S.1.length (lk k) (hk k) ls ml) (hT : zSr b ad S.1.length mst st) (hc : cells + (S'.1.length - S.1.length) ≤ R.cells) (hs : slots + (zsl S' - zsl S) ≤ R.slots)
    (kk : zK D base b xs k p l e R s m args below meth c Q S S' I' ad cells slots pc' ml' mst') : W p l e R s m args below meth c H locs cells slots Q (F0 m pc ls st) := by
  obtain ⟨hx, hb, hml, hown, hts, hRf, hRl, hni⟩ := Cx
  simp only [sti] at h
  split at h
  · rename_i h0
    subst h0
    split at h
    · rename_i ci hv
      simp only [nx, Option.some.injEq, Sum.inl.injEq, Prod.mk.injEq] at h
      obtain ⟨rfl, rfl, rfl, rfl, rfl⟩ := h
      obtain ⟨li, hlink, hci⟩ := znw_of hv
      obtain ⟨tys, ws, hK, hP, hD, hsz, hbb, hX, hXl, hXv, hlen, hcell, hI, hN⟩ := id W0
      have hcN := (zt_ty0 ci hci).1
      have hl3 : (sp S (ci + 2, List.replicate (nf ci) 0)).1.length = S.1.length + 1 := by simp [sp]
      have hz3 : zsl (sp S (ci + 2, List.replicate (nf ci) 0)) = zsl S + nf ci := by simp [zsl, sp]
      rw [hl3] at hc
      rw [hz3] at hs
      refine va_new (D := D) (ci := ci) (fs := zFl (fun _ => 0) (fun _ => 0) ci (List.replicate (nf ci) 0)) (C := cR ci) (T := cT ci) (N := cN ci) hx hb hts (zt_wsg ci hci) (cty ci) (zt_ty ci hci) hown (hts _ (zt_gp hlink rfl)) (hts _ (zt_gp (zt_ins ci hci).1 rfl)) (hts _ (zt_gp (zt_ins ci hci).2 rfl)) hK hP hD hS (fun q hq => by show base ≤ q; omega) (zt_cls ci hci) (fun j hj => ?_) (by omega) (by omega) hdg (fun qa H1 hP1 hD1 hS1 => ?_)
      · obtain ⟨y1, y2, y3, y4, y5, y6, y7⟩ := (zt_ty0 ci hci).2 j (by rw [← hcN]; exact hj)
        have hdl : j < (List.replicate (nf ci) 0).length := by rw [List.length_replicate, ← hcN]; exact hj
        have h0 : (List.replicate (nf ci) 0).getD j 0 = 0 := by
          rw [hcN] at hj
          simp [List.getD_eq_getElem?_getD, hj]
        unfold vp_V
        rw [List.getD_eq_getElem?_getD, zFl_get hdl, h0]
        by_cases h1 : ft ci j ≤ 1
        · have : cty ci j = .int ∨ cty ci j = .boolean := by
            have : ft ci j = 0 ∨ ft ci j = 1 := by omega
            rcases this with z | z
            · exact Or.inl (y5 (Or.inl z))
            · exact Or.inr (y6 (Or.inl z))
          rcases this with z | z <;> rw [z] <;> simp [h1, defaultValue]
        · by_cases h2 : ft ci j ≤ 3
          · have : cty ci j = .int ∨ cty ci j = .boolean := by
              have : ft ci j = 2 ∨ ft ci j = 3 := by omega
              rcases this with z | z
              · exact Or.inl (y5 (Or.inr z))
              · exact Or.inr (y6 (Or.inr z))
            rcases this with z | z <;> rw [z] <;> simp [h1, h2, defaultValue]
          · have z1 := y7 (by omega)
            cases hcty : cty ci j <;> rw [hcty] at z1 <;> first | (simp [h1, h2, defaultValue]; done) | cases z1
      · have W1 := zWo_push (q0 := (ci + 2, List.replicate (nf ci) 0)) (cA0 := 0) W0 hK (fun _ _ z => z) (fun a q z => (hcell a q z).2.2) ⟨fun z => by simp at z, fun z => by simp at z⟩ hlen (fun a q z => (hcell a q z).1) hP1 hD1 hS hS1 hbs (by
          rw [zE_obj (ci := ci) rfl]
          congr 2
          apply List.ext_getElem?
          intro j
          by_cases hj : j < nf ci
          · have hdl : j < (List.replicate (nf ci) 0).length := by simpa using hj
            have h0 : (List.replicate (nf ci) 0).getD j 0 = 0 := by simp [List.getD_eq_getElem?_getD, hj]
            rw [zFl_get hdl, zFl_get hdl, h0]
            simp
          · rw [List.getElem?_eq_none (by simp [zFl_len]; omega), List.getElem?_eq_none (by simp [zFl_len]; omega)]) (Or.inr ⟨by simp, by simpa using hci, by simp, fun j hj => by
            have h0 : (List.replicate (nf ci) 0).getD j 0 = 0 := by
              have hj : j < nf ci := by simpa using hj
              simp [List.getD_eq_getElem?_getD, hj]
            rw [h0]
            exact ⟨fun _ => by omega, fun _ => by omega⟩⟩)
        have hAd : ∀ a, a < S.1.length → (fun a => if a = S.1.length then qa else ad a) a = ad a := fun a ha => by simp [show a ≠ S.1.length by omega]
        refine W.widen (by rw [hl3]; omega) (by rw [hz3, hcN]; omega) (kk _ _ _ H1 locs ls _ W1 hS1 (by rw [hl3]; exact zLr_more hL hAd (by omega)) ?_ hAd)
        rw [hl3]
        exact ⟨⟨by simp, by omega⟩, zSr_more hAd (by omega) _ _ hT⟩
    · cases h
  · cases h
theorem zn_newarray {t : ArrayType} {len pc' : Nat} {ml' mst' : List zV} {S' : zS} {I' : zM} (Cx : zCx k R p s m args meth c) (hbs : base ≤ s.heap.size) (hdg : decode (bk k) pc = .ok (.newarray t, len)) (h : sti k pc ml mst S I len (.newarray t) = some (.inl (pc', ml', mst', S', I'))) (W0 : zWo D base b xs ad cA F S I s H) (hS : va_S (fun q => base ≤ q) s.heap H locs) (hL : zLr b ad S.1.length (lk k) (hk k) ls ml) (hT : zSr b ad S.1.length mst st) (hc : cells + (S'.1.length - S.1.length) ≤ R.cells) (hs : slots + (zsl S' - zsl S) ≤ R.slots)
    (kk : zK D base b xs k p l e R s m args below meth c Q S S' I' ad cells slots pc' ml' mst') : W p l e R s m args below meth c H locs cells slots Q (F0 m pc ls st) := by
  obtain ⟨hx, hb, hml, hown, hts, hRf, hRl, hni⟩ := Cx
  simp only [sti] at h
  split at h
  · rename_i n r
    split at h
    · rename_i h0
      obtain ⟨rfl, hn0, hn1⟩ := h0
      obtain ⟨tys, ws, hK, hP, hD, hsz, hbb, hX, hXl, hXv, hlen, hcell, hI, hN⟩ := id W0
      obtain ⟨w, st', rfl, hw, hq2⟩ := zSr_i hT
      split at h
      · rename_i ht
        subst ht
        simp only [nx, Option.some.injEq, Sum.inl.injEq, Prod.mk.injEq] at h
        obtain ⟨rfl, rfl, rfl, rfl, rfl⟩ := h
        have hl3 : (sp S (0, [n.toNat])).1.length = S.1.length + 1 := by simp [sp]
        have hz3 : zsl (sp S (0, [n.toNat])) = zsl S + n.toNat := by simp [zsl, sp]
        rw [hl3] at hc
        rw [hz3] at hs
        refine va_newa (D := D) (atype := .int) (ty := .int) (a0 := (n.toNat, .inl (fun _ => 0))) (N' := n.toNat) hx hb (hts _ (zt_g zt_ai rfl)) rfl hK hP hD hS (fun q hq => by show base ≤ q; omega) (fun cA => rfl) (fun z => ?_) ?_ ?_ (by omega) (by omega) hdg (fun qa cA0 H1 hK1 hP1 hD1 hS1 => ?_)
        · rw [Int32.lt_iff_toInt_lt] at z
          simp at z
          omega
        · rw [← Int32.toNat_toInt, hw]
        · show n.toNat * _ ≤ _
          have : componentBytes .int ≤ 4 := by decide
          exact Nat.le_trans (Nat.mul_le_mul_left _ this) (by omega)
        · have W1 := zWo_push (q0 := (0, [n.toNat])) (cA0 := cA0) (tys := tys) W0 hK1 (fun t x z => by rw [List.getElem?_append_left (List.getElem?_eq_some_iff.mp z).1]; exact z) (fun a q z => (hcell a q z).2.2) ⟨fun z => ⟨tys.length, by simp⟩, fun z => by simp at z⟩ hlen (fun a q z => (hcell a q z).1) hP1 hD1 hS hS1 hbs (by rw [zE_arr (by simp)]; simp) (Or.inl ⟨by simp, by simp; omega⟩)
          have hAd : ∀ a, a < S.1.length → (fun a => if a = S.1.length then qa else ad a) a = ad a := fun a ha => by simp [show a ≠ S.1.length by omega]
          refine W.widen (by rw [hl3]; omega) (by rw [hz3]; omega) (kk _ _ _ H1 locs ls _ W1 hS1 (by rw [hl3]; exact zLr_more hL hAd (by omega)) ?_ hAd)
          rw [hl3]
          exact ⟨⟨by simp, by omega⟩, zSr_more hAd (by omega) _ _ hq2⟩
      · split at h
        · rename_i ht
          subst ht
          simp only [nx, Option.some.injEq, Sum.inl.injEq, Prod.mk.injEq] at h
          obtain ⟨rfl, rfl, rfl, rfl, rfl⟩ := h
          have hl3 : (sp S (1, [n.toNat])).1.length = S.1.length + 1 := by simp [sp]
          have hz3 : zsl (sp S (1, [n.toNat])) = zsl S + n.toNat := by simp [zsl, sp]
          rw [hl3] at hc
          rw [hz3] at hs
          refine va_newa (D := D) (atype := .boolean) (ty := .boolean) (a0 := (n.toNat, .inl (fun _ => 0))) (N' := n.toNat) hx hb (hts _ (zt_g zt_ab rfl)) rfl hK hP hD hS (fun q hq => by show base ≤ q; omega) (fun cA => rfl) (fun z => ?_) ?_ ?_ (by omega) (by omega) hdg (fun qa cA0 H1 hK1 hP1 hD1 hS1 => ?_)
          · rw [Int32.lt_iff_toInt_lt] at z
            simp at z
            omega
          · rw [← Int32.toNat_toInt, hw]
          · show n.toNat * _ ≤ _
            have : componentBytes .boolean ≤ 4 := by decide
            exact Nat.le_trans (Nat.mul_le_mul_left _ this) (by omega)
          · have W1 := zWo_push (q0 := (1, [n.toNat])) (cA0 := cA0) (tys := tys) W0 hK1 (fun t x z => by rw [List.getElem?_append_left (List.getElem?_eq_some_iff.mp z).1]; exact z) (fun a q z => (hcell a q z).2.2) ⟨fun z => by simp at z, fun z => ⟨tys.length, by simp⟩⟩ hlen (fun a q z => (hcell a q z).1) hP1 hD1 hS hS1 hbs (by rw [zE_arr (by simp)]; simp) (Or.inl ⟨by simp, by simp; omega⟩)
            have hAd : ∀ a, a < S.1.length → (fun a => if a = S.1.length then qa else ad a) a = ad a := fun a ha => by simp [show a ≠ S.1.length by omega]
            refine W.widen (by rw [hl3]; omega) (by rw [hz3]; omega) (kk _ _ _ H1 locs ls _ W1 hS1 (by rw [hl3]; exact zLr_more hL hAd (by omega)) ?_ hAd)
            rw [hl3]
            exact ⟨⟨by simp, by omega⟩, zSr_more hAd (by omega) _ _ hq2⟩
        · cases h
    · cases h
  · cases h
theorem zn_ospecial {i : Nat} {len pc' : Nat} {ml' mst' : List zV} {S' : zS} {I' : zM} (Cx : zCx k R p s m args meth c) (hbs : base ≤ s.heap.size) (hdg : decode (bk k) pc = .ok (.invokespecial i, len)) (h : sti k pc ml mst S I len (.invokespecial i) = some (.inl (pc', ml', mst', S', I'))) (W0 : zWo D base b xs ad cA F S I s H) (hS : va_S (fun q => base ≤ q) s.heap H locs) (hL : zLr b ad S.1.length (lk k) (hk k) ls ml) (hT : zSr b ad S.1.length mst st) (hc : cells + (S'.1.length - S.1.length) ≤ R.cells) (hs : slots + (zsl S' - zsl S) ≤ R.slots)
    (kk : zK D base b xs k p l e R s m args below meth c Q S S' I' ad cells slots pc' ml' mst') : W p l e R s m args below meth c H locs cells slots Q (F0 m pc ls st) := by
  obtain ⟨hx, hb, hml, hown, hts, hRf, hRl, hni⟩ := Cx
  simp only [sti] at h
  split at h
  · rename_i h0
    subst h0
    split at h
    · rename_i q0 hv
      obtain ⟨qk, k'⟩ := q0
      obtain ⟨r0, hr, e1, e2, e3, e4, hlc, hk'⟩ := zlkk_of hv
      split at h
      · simp only [zcv] at h
        split at h
        · split at h <;> cases h
        · cases h
      · split at h
        · rename_i hq2
          simp only [zob] at h
          split at h
          · rename_i a r
            split at h
            · rename_i hro
              simp only [nx, Option.some.injEq, Sum.inl.injEq, Prod.mk.injEq] at h
              obtain ⟨rfl, rfl, rfl, rfl, rfl⟩ := h
              obtain ⟨st', rfl, ha, hq⟩ := zSr_r hT
              dsimp only at hq2
              have hlc2 : zlc r0 = Cond.methodLink (cn (ok k)) i objectInit := by
                unfold zlc
                rw [e1, e2, e3, hq2]
                rfl
              rw [hlc2] at hlc
              refine W.objInit hx hb hown (hts _ (zt_g hlc rfl)) (hts _ (zt_g zt_ob1 rfl)) (hts _ (zt_g zt_ob2 rfl)) rfl (by rw [hml]; exact hL.1) rfl hdg (by rw [hRf]; exact hro.1) ?_ (kk.go W0 hS hL hq)
              have := zSr_ws _ _ hq
              rw [hRl, this]
              show 2 * 0 + _ + 12 ≤ _
              omega
            · cases h
          · cases h
        · cases h
    · cases h
  · cases h
theorem zn_mstatic {i : Nat} {len pc' : Nat} {ml' mst' : List zV} {S' : zS} {I' : zM} (Cx : zCx k R p s m args meth c) (hbs : base ≤ s.heap.size) (hdg : decode (bk k) pc = .ok (.invokestatic i, len)) (h : sti k pc ml mst S I len (.invokestatic i) = some (.inl (pc', ml', mst', S', I'))) (W0 : zWo D base b xs ad cA F S I s H) (hS : va_S (fun q => base ≤ q) s.heap H locs) (hL : zLr b ad S.1.length (lk k) (hk k) ls ml) (hT : zSr b ad S.1.length mst st) (hc : cells + (S'.1.length - S.1.length) ≤ R.cells) (hs : slots + (zsl S' - zsl S) ≤ R.slots)
    (kk : zK D base b xs k p l e R s m args below meth c Q S S' I' ad cells slots pc' ml' mst') : W p l e R s m args below meth c H locs cells slots Q (F0 m pc ls st) := by
  obtain ⟨hx, hb, hml, hown, hts, hRf, hRl, hni⟩ := Cx
  simp only [sti] at h
  split at h
  · rename_i h0
    subst h0
    split at h
    · rename_i q0 hv
      obtain ⟨qk, k'⟩ := q0
      obtain ⟨r0, hr, e1, e2, e3, e4, hlc, hk'⟩ := zlkk_of hv
      split at h
      · simp only [zcs] at h
        split at h <;> cases h
      · split at h
        · rename_i hq2
          simp only [zmx] at h
          split at h
          · rename_i y x r
            split at h
            · rename_i hro
              simp only [nx, Option.some.injEq, Sum.inl.injEq, Prod.mk.injEq] at h
              obtain ⟨rfl, rfl, rfl, rfl, rfl⟩ := h
              obtain ⟨wy, st1, rfl, rfl, hq⟩ := zSr_i hT
              obtain ⟨wx, st2, rfl, rfl, hq3⟩ := zSr_i hq
              have hws := zSr_ws _ _ hq3
              dsimp only at hq2
              rcases hq2 with hq2 | hq2
              · have hlc2 : zlc r0 = Cond.methodLink (cn (ok k)) i Lib.Math.max.name := by
                  unfold zlc
                  rw [e1, e2, e3, hq2]
                  rfl
                rw [hlc2] at hlc
                refine va_mmax hx hb (by rw [hml]; exact hL.1.symm) hown (hts _ (zt_g hlc rfl)) (hts _ (zt_g zt_max1 rfl)) (hts _ (zt_g zt_mth rfl)) (hts _ (zt_g zt_max2 rfl)) (by rw [hRf]; exact hro.1) (by rw [hRl, hws]; exact hro.2) (by omega) (by omega) hdg (kk.go W0 hS hL ⟨⟨_, rfl, ?_⟩, hq3⟩)
                rw [if_pos hq2]
                by_cases z : wx < wy
                · rw [if_pos z, if_pos (Int32.lt_iff_toInt_lt.mp z)]
                · rw [if_neg z, if_neg (fun z2 => z (Int32.lt_iff_toInt_lt.mpr z2))]
              · have hlc2 : zlc r0 = Cond.methodLink (cn (ok k)) i Lib.Math.min.name := by
                  unfold zlc
                  rw [e1, e2, e3, hq2]
                  rfl
                rw [hlc2] at hlc
                refine va_mmin hx hb (by rw [hml]; exact hL.1.symm) hown (hts _ (zt_g hlc rfl)) (hts _ (zt_g zt_min1 rfl)) (hts _ (zt_g zt_mth rfl)) (hts _ (zt_g zt_min2 rfl)) (by rw [hRf]; exact hro.1) (by rw [hRl, hws]; exact hro.2) (by omega) (by omega) hdg (kk.go W0 hS hL ⟨⟨_, rfl, ?_⟩, hq3⟩)
                rw [if_neg (show ¬ qk = 3 by omega)]
                by_cases z : wy < wx
                · rw [if_pos z, if_pos (Int32.lt_iff_toInt_lt.mp z)]
                · rw [if_neg z, if_neg (fun z2 => z (Int32.lt_iff_toInt_lt.mpr z2))]
            · cases h
          · cases h
        · cases h
    · cases h
  · cases h
end ZH
