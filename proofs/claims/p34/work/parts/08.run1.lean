section ZR
variable {D : va_G} {base b : Nat} {xs : Nat → Int32} {k : Nat} {p : Program} {l : Launch} {e : Env} {R : Room} {s : State} {m : MethodId} {args : Array Value} {below : List Frame} {meth : Method} {c : Code} {Q : State → Prop} {S : zS} {I : zM} {ad : Nat → Nat} {cA : Nat → ClassId} {F : Nat → Nat → Int32} {H : Heap} {locs : List Loc} {cells slots pc : Nat} {ml mst : List zV} {ls : Array Slot} {st : List Value}
set_option maxHeartbeats 4000000 in
theorem z_next {pc' : Nat} {ml' mst' : List zV} {S' : zS} {I' : zM} (Cx : zCx k R p s m args meth c) (hbs : base ≤ s.heap.size) (W0 : zWo D base b xs ad cA F S I s H) (hS : va_S (fun q => base ≤ q) s.heap H locs) (hL : zLr b ad S.1.length (lk k) (hk k) ls ml) (hT : zSr b ad S.1.length mst st) (h : stp k pc ml mst S I = some (.inl (pc', ml', mst', S', I'))) (hc : cells + (S'.1.length - S.1.length) ≤ R.cells) (hs : slots + (zsl S' - zsl S) ≤ R.slots)
    (kk : zK D base b xs k p l e R s m args below meth c Q S S' I' ad cells slots pc' ml' mst') : W p l e R s m args below meth c H locs cells slots Q (F0 m pc ls st) := by
  unfold stp at h
  cases hd : decode (bk k) pc with
  | error z => rw [hd] at h; cases h
  | ok q =>
    rw [hd] at h
    obtain ⟨ins, len⟩ := q
    dsimp only at h
    cases ins
    case iconst => exact zn_iconst Cx hbs hd h W0 hS hL hT hc hs kk
    case bipush => exact zn_bipush Cx hbs hd h W0 hS hL hT hc hs kk
    case sipush => exact zn_sipush Cx hbs hd h W0 hS hL hT hc hs kk
    case lconst => exact zn_lconst Cx hbs hd h W0 hS hL hT hc hs kk
    case ldc => exact zn_ldc Cx hbs hd h W0 hS hL hT hc hs kk
    case ldc_w => exact zn_ldc_w Cx hbs hd h W0 hS hL hT hc hs kk
    case ldc2_w => exact zn_ldc2_w Cx hbs hd h W0 hS hL hT hc hs kk
    case iload_n => exact zn_iload_n Cx hbs hd h W0 hS hL hT hc hs kk
    case iload => exact zn_iload Cx hbs hd h W0 hS hL hT hc hs kk
    case lload_n => exact zn_lload_n Cx hbs hd h W0 hS hL hT hc hs kk
    case lload => exact zn_lload Cx hbs hd h W0 hS hL hT hc hs kk
    case aload_n => exact zn_aload_n Cx hbs hd h W0 hS hL hT hc hs kk
    case aload => exact zn_aload Cx hbs hd h W0 hS hL hT hc hs kk
    case istore_n => exact zn_istore_n Cx hbs hd h W0 hS hL hT hc hs kk
    case istore => exact zn_istore Cx hbs hd h W0 hS hL hT hc hs kk
    case astore_n => exact zn_astore_n Cx hbs hd h W0 hS hL hT hc hs kk
    case astore => exact zn_astore Cx hbs hd h W0 hS hL hT hc hs kk
    case iinc => exact zn_iinc Cx hbs hd h W0 hS hL hT hc hs kk
    case iadd => exact zn_iadd Cx hbs hd h W0 hS hL hT hc hs kk
    case isub => exact zn_isub Cx hbs hd h W0 hS hL hT hc hs kk
    case imul => exact zn_imul Cx hbs hd h W0 hS hL hT hc hs kk
    case iand => exact zn_iand Cx hbs hd h W0 hS hL hT hc hs kk
    case i2l => exact zn_i2l Cx hbs hd h W0 hS hL hT hc hs kk
    case ladd => exact zn_ladd Cx hbs hd h W0 hS hL hT hc hs kk
    case lcmp => exact zn_lcmp Cx hbs hd h W0 hS hL hT hc hs kk
    case dup => exact zn_dup Cx hbs hd h W0 hS hL hT hc hs kk
    case dup2 => exact zn_dup2 Cx hbs hd h W0 hS hL hT hc hs kk
    case pop => exact zn_pop Cx hbs hd h W0 hS hL hT hc hs kk
    case if_icmp => exact zn_if_icmp Cx hbs hd h W0 hS hL hT hc hs kk
    case ifCond => exact zn_ifCond Cx hbs hd h W0 hS hL hT hc hs kk
    case goto => exact zn_goto Cx hbs hd h W0 hS hL hT hc hs kk
    case tableswitch => exact zn_tableswitch Cx hbs hd h W0 hS hL hT hc hs kk
    case getfield => exact zn_getfield Cx hbs hd h W0 hS hL hT hc hs kk
    case putfield => exact zn_putfield Cx hbs hd h W0 hS hL hT hc hs kk
    case iaload => exact zn_iaload Cx hbs hd h W0 hS hL hT hc hs kk
    case baload => exact zn_baload Cx hbs hd h W0 hS hL hT hc hs kk
    case iastore => exact zn_iastore Cx hbs hd h W0 hS hL hT hc hs kk
    case bastore => exact zn_bastore Cx hbs hd h W0 hS hL hT hc hs kk
    case arraylength => exact zn_arraylength Cx hbs hd h W0 hS hL hT hc hs kk
    case new => exact zn_new Cx hbs hd h W0 hS hL hT hc hs kk
    case newarray => exact zn_newarray Cx hbs hd h W0 hS hL hT hc hs kk
    case invokespecial => exact zn_ospecial Cx hbs hd h W0 hS hL hT hc hs kk
    case invokestatic => exact zn_mstatic Cx hbs hd h W0 hS hL hT hc hs kk
    case invokevirtual =>
      simp only [sti] at h
      split at h
      · split at h
        · split at h
          · simp only [zcv] at h
            split at h
            · split at h <;> cases h
            · cases h
          · cases h
        · cases h
      · cases h
    case ireturn =>
      simp only [sti] at h
      split at h
      · split at h <;> cases h
      · cases h
    case areturn =>
      simp only [sti] at h
      split at h
      · split at h
        · split at h <;> cases h
        · cases h
      · cases h
    case return_ =>
      simp only [sti] at h
      split at h
      · split at h <;> cases h
      · cases h
    all_goals (simp only [sti] at h; cases h)
theorem zsl_ss {a j d : Nat} (h : 2 ≤ kd S a) : zsl (ss S a j d) = zsl S := by
  unfold zsl ss
  dsimp only
  congr 1
  apply List.ext_getElem?
  intro i
  rw [List.getElem?_map, List.getElem?_map, List.getElem?_modify]
  by_cases e : a = i
  · subst e
    unfold kd at h
    cases hq : S.1[a]? with
    | none => simp
    | some q =>
      rw [hq] at h
      dsimp only at h
      simp [show ¬ q.1 ≤ 1 by omega]
  · simp [e]
theorem zss_len {a j d : Nat} : (ss S a j d).1.length = S.1.length := by simp [ss]
theorem zsp_len {q : Nat × List Nat} : (sp S q).1.length = S.1.length + 1 := by simp [sp]
theorem zsp_sl {q : Nat × List Nat} : zsl S ≤ zsl (sp S q) := by simp [zsl, sp]
set_option maxHeartbeats 4000000 in
theorem stp_grow {pc' : Nat} {ml' mst' : List zV} {S' : zS} {I' : zM} (h : stp k pc ml mst S I = some (.inl (pc', ml', mst', S', I'))) : S.1.length ≤ S'.1.length ∧ zsl S ≤ zsl S' := by
  unfold stp at h
  cases hd : decode (bk k) pc with
  | error z => rw [hd] at h; cases h
  | ok q =>
    rw [hd] at h
    obtain ⟨ins, len⟩ := q
    dsimp only at h
    cases ins
    case putfield =>
      simp only [sti, zpf] at h
      repeat' split at h
      all_goals first
        | (cases h; done)
        | (simp only [nx, Option.some.injEq, Sum.inl.injEq, Prod.mk.injEq] at h
           obtain ⟨-, -, -, rfl, -⟩ := h
           first
             | exact ⟨Nat.le_refl _, Nat.le_refl _⟩
             | exact ⟨by rw [zss_len]; exact Nat.le_refl _, by rw [zsl_ss (by omega)]; exact Nat.le_refl _⟩)
    case new =>
      simp only [sti] at h
      repeat' split at h
      all_goals first
        | (cases h; done)
        | (simp only [nx, Option.some.injEq, Sum.inl.injEq, Prod.mk.injEq] at h
           obtain ⟨-, -, -, rfl, -⟩ := h
           exact ⟨by rw [zsp_len]; omega, zsp_sl⟩)
    case newarray =>
      simp only [sti] at h
      repeat' split at h
      all_goals first
        | (cases h; done)
        | (simp only [nx, Option.some.injEq, Sum.inl.injEq, Prod.mk.injEq] at h
           obtain ⟨-, -, -, rfl, -⟩ := h
           exact ⟨by rw [zsp_len]; omega, zsp_sl⟩)
    all_goals first
      | (simp only [sti] at h; cases h; done)
      | (simp only [sti, zgf, zal, zas, zcv, zcs, zob, zmx, zcl, zrt] at h
         repeat' split at h
         all_goals first
           | (cases h; done)
           | (simp only [nx, Option.some.injEq, Sum.inl.injEq, Prod.mk.injEq] at h
              obtain ⟨-, -, -, rfl, -⟩ := h
              exact ⟨Nat.le_refl _, Nat.le_refl _⟩))
theorem ex_grow : ∀ (n : Nat) (k pc : Nat) (ml mst : List zV) (S : zS) (I : zM) (u : zV × zS × zM), ex n k pc ml mst S I = some u → S.1.length ≤ u.2.1.1.length ∧ zsl S ≤ zsl u.2.1 := by
  intro n
  induction n with
  | zero => intro k pc ml mst S I u h; simp [ex] at h
  | succ n ih =>
    intro k pc ml mst S I u h
    rw [ex] at h
    cases hs : stp k pc ml mst S I with
    | none => rw [hs] at h; cases h
    | some a =>
      rw [hs] at h
      rcases a with q | q | r
      · obtain ⟨pc', ml', mst', S1, I1⟩ := q
        have h1 := stp_grow hs
        have h2 := ih _ _ _ _ _ _ _ h
        dsimp only at h2
        omega
      · dsimp only at h
        cases hc : ex n q.1 0 q.2.1 [] S I with
        | none => rw [hc] at h; cases h
        | some v =>
          rw [hc] at h
          have h1 := ih _ _ _ _ _ _ _ hc
          have h2 := ih _ _ _ _ _ _ _ h
          omega
      · cases h
        exact ⟨Nat.le_refl _, Nat.le_refl _⟩
-- ends and calls
def zEnd (k pc b : Nat) (ad : Nat → Nat) (n : Nat) (r : zV) (rv : Option Value) : Prop := (∃ w : Int32, rv = some (.int w) ∧ r = vI w.toInt ∧ decode (bk k) pc = .ok (.ireturn, 1) ∧ (rk k = some .int ∨ (rk k = some .boolean ∧ (w = 0 ∨ w = 1)))) ∨ (∃ a, r = vR a ∧ a < n ∧ rv = some (.ref (ad a)) ∧ decode (bk k) pc = .ok (.areturn, 1) ∧ ∃ nm, rk k = some (.object nm)) ∨ (r = vU ∧ rv = none ∧ decode (bk k) pc = .ok (.return_, 1) ∧ rk k = none)
def zRv (b : Nat) (ad : Nat → Nat) (n : Nat) (r : zV) (rv : Option Value) : Prop := (r = vU ∧ rv = none) ∨ ∃ w, rv = some w ∧ zVr b ad n r w
theorem zEnd.rv {n : Nat} {r : zV} {rv : Option Value} (h : zEnd k pc b ad n r rv) : zRv b ad n r rv := by
  rcases h with ⟨w, h1, h2, -⟩ | ⟨a, h1, h2, h3, -⟩ | ⟨h1, h2, -⟩
  · exact Or.inr ⟨_, h1, by rw [h2]; exact ⟨w, rfl, rfl⟩⟩
  · exact Or.inr ⟨_, h3, by rw [h1]; exact ⟨rfl, h2⟩⟩
  · exact Or.inl ⟨h1, h2⟩
theorem z_ret {r : zV} (h : stp k pc ml mst S I = some (.inr (.inr r))) (hT : zSr b ad S.1.length mst st) : ∃ rv : Option Value, st = rv.toList ∧ zEnd k pc b ad S.1.length r rv := by
  unfold stp at h
  cases hd : decode (bk k) pc with
  | error z => rw [hd] at h; cases h
  | ok q =>
    rw [hd] at h
    obtain ⟨ins, len⟩ := q
    dsimp only at h
    cases ins
    case ireturn =>
      simp only [sti] at h
      split at h
      · rename_i x
        split at h
        · rename_i h0
          simp only [zrt, Option.some.injEq, Sum.inr.injEq] at h
          obtain ⟨rfl, h1⟩ := h0
          obtain ⟨w, st', rfl, hw, hq⟩ := zSr_i hT
          rw [zSr_n hq]
          refine ⟨some (.int w), rfl, Or.inl ⟨w, rfl, by rw [← h, ← hw], hd, ?_⟩⟩
          rcases h1 with h1 | ⟨h1, h2⟩
          · exact Or.inl h1
          · refine Or.inr ⟨h1, ?_⟩
            rcases h2 with z | z
            · exact Or.inl (Int32.toInt_inj.mp (by rw [hw, z]; rfl))
            · exact Or.inr (Int32.toInt_inj.mp (by rw [hw, z]; rfl))
        · cases h
      · cases h
    case areturn =>
      simp only [sti] at h
      split at h
      · rename_i a
        split at h
        · rename_i h0
          split at h
          · rename_i nm hr
            simp only [zrt, Option.some.injEq, Sum.inr.injEq] at h
            subst h0
            obtain ⟨st', rfl, ha, hq⟩ := zSr_r hT
            rw [zSr_n hq]
            exact ⟨some (.ref (ad a)), rfl, Or.inr (Or.inl ⟨a, h.symm, ha, rfl, hd, nm, hr⟩)⟩
          · cases h
        · cases h
      · cases h
    case return_ =>
      simp only [sti] at h
      split at h
      · split at h
        · rename_i h0
          simp only [zrt, Option.some.injEq, Sum.inr.injEq] at h
          obtain ⟨rfl, h1⟩ := h0
          rw [zSr_n hT]
          exact ⟨none, rfl, Or.inr (Or.inr ⟨h.symm, rfl, hd, h1⟩)⟩
        · cases h
      · cases h
    all_goals first
      | (simp only [sti] at h; cases h; done)
      | (simp only [sti, zgf, zpf, zal, zas, zcv, zcs, zob, zmx, zcl, nx] at h
         repeat' split at h
         all_goals (cases h; done))
def zQc (D : va_G) (base b : Nat) (xs : Nat → Int32) (ad : Nat → Nat) (S : zS) (r : zV) (S' : zS) (I' : zM) : Array Value → State → Outcome → State → Prop := fun _ st o t => (∃ (rv : Option Value) (ad' : Nat → Nat) (cA' : Nat → ClassId) (F' : Nat → Nat → Int32), o = .returned rv ∧ zRv b ad' S'.1.length r rv ∧ zWo D base b xs ad' cA' F' S' I' t t.heap ∧ (∀ a, a < S.1.length → ad' a = ad a)) ∧ va_F (fun q => base ≤ q) st t
def zPc2 (D : va_G) (base b : Nat) (xs : Nat → Int32) (ad : Nat → Nat) (cA : Nat → ClassId) (F : Nat → Nat → Int32) (S : zS) (I : zM) (As : List Value) : Array Value → State → Prop := fun v U => v = As.toArray ∧ zWo D base b xs ad cA F S I U U.heap
theorem zWo_al {U : State} {H : Heap} (W0 : zWo D base b xs ad cA F S I s H) (hvm : s.vm.Alike U.vm) (hN : ∀ r ∈ zlk_l, r.2.2.1 = 1 → va_Nw (zlc r) U) : zWo D base b xs ad cA F S I U H := by
  obtain ⟨tys, ws, hK, hP, hD, hsz, hbb, hX, hXl, hXv, hlen, hcell, hI, -⟩ := W0
  exact ⟨tys, ws, va_K.moved hvm hK, hP, hD, hsz, hbb, va_X.moved hvm hX, hXl, hXv, hlen, hcell, hI, hN⟩
theorem zNw_warm {U : State} (hW : s.WarmedH U.vm) (hN : ∀ r ∈ zlk_l, r.2.2.1 = 1 → va_Nw (zlc r) s) : ∀ r ∈ zlk_l, r.2.2.1 = 1 → va_Nw (zlc r) U := by
  intro r hr h1
  have h2 := hN r hr h1
  have e : zlc r = Cond.methodLinkNest (cn r.1) r.2.1 (yk r.2.2.2.1) "ClauseDrafts" := by
    unfold zlc
    rw [h1]
    rfl
  rw [e] at h2 ⊢
  exact va_Nw.warmM hW h2
theorem zPc_blind {As : List Value} : FrameBlind (zPc2 D base b xs ad cA F S I As) := by
  intro a U g mk h
  obtain ⟨h1, h2⟩ := h
  refine ⟨h1, ?_⟩
  have hN := h2
  obtain ⟨tys, ws, hK, hP, hD, hsz, hbb, hX, hXl, hXv, hlen, hcell, hI, hN⟩ := hN
  refine zWo_al (s := U) h2 (Vm.Alike.refl U.vm) (fun r hr h1 => ?_)
  have e : zlc r = Cond.methodLinkNest (cn r.1) r.2.1 (yk r.2.2.2.1) "ClauseDrafts" := by
    unfold zlc
    rw [h1]
    rfl
  have h3 := hN r hr h1
  rw [e] at h3 ⊢
  exact va_Nw.same rfl (rfl : U.vm = (U.calling g mk a).vm) h3
theorem zcall_go {mc ms : Nat} {rest st0 : List Value} {a : Array Value} {r : zV} {S1 : zS} {I1 : zM} (hr : va_Run p l e R s m args below meth c H locs cells slots mc ms (F0 m pc ls st0) rest (zQc D base b xs ad S r S1 I1 a) (fun q => base ≤ q)) (W0 : zWo D base b xs ad cA F S I s H) (hS : va_S (fun q => base ≤ q) s.heap H locs)
    (kk : ∀ (ad' : Nat → Nat) (cA' : Nat → ClassId) (F' : Nat → Nat → Int32) (H1 : Heap) (locs1 : List Loc) (rv : Option Value), zWo D base b xs ad' cA' F' S1 I1 s H1 → va_S (fun q => base ≤ q) s.heap H1 locs1 → zRv b ad' S1.1.length r rv → (∀ a, a < S.1.length → ad' a = ad a) → W p l e R s m args below meth c H1 locs1 (cells + mc) (slots + ms) Q (F0 m (pc + 3) ls (rv.toList ++ rest))) : W p l e R s m args below meth c H locs cells slots Q (F0 m pc ls st0) := by
  intro T hT X
  obtain ⟨v, st₀, t, T', L, h0, X', hLl, e1, e2, ⟨⟨rv, ad', cA', F', ho, hrv, hwo, had⟩, hz, hkq⟩, st⟩ := hr T hT X
  cases ho
  rw [h0] at hz hkq
  have hal : s.vm.Alike t.vm := by rw [← e2]; exact X'.warmed.alike
  have W1 : zWo D base b xs ad' cA' F' S1 I1 s T'.heap := by
    rw [e1]
    have hN := W0
    obtain ⟨tys, ws, hK, hP, hD, hsz, hbb, hX, hXl, hXv, hlen, hcell, hI, hN⟩ := hN
    exact zWo_al hwo hal.symm hN
  obtain ⟨t2, a1, b1⟩ := kk ad' cA' F' T'.heap (locs ++ L) v W1
    ⟨Nat.le_trans hS.1 (by rw [e1]; exact hz), fun q h1 h2 => by rw [e1, hkq q (Nat.lt_of_lt_of_le h1 hS.1) h2]; exact hS.2.1 q h1 h2, fun q hq => by
      rcases List.mem_append.mp hq with h | h
      · exact hS.2.2 q h
      · exact hLl q h⟩ hrv had T' rfl X'
  exact ⟨t2, st t2 a1, b1⟩
theorem zSr_pu {n : Nat} {r : zV} {rv : Option Value} {rest : List zV} {q : List Value} (h : zRv b ad n r rv) (hq : zSr b ad n rest q) : zSr b ad n (zpu r rest) (rv.toList ++ q) := by
  rcases h with ⟨rfl, rfl⟩ | ⟨w, rfl, hw⟩
  · exact hq
  · rcases r with x | a | x | u
    · exact ⟨hw, hq⟩
    · exact ⟨hw, hq⟩
    · exact ⟨hw, hq⟩
    · cases u
      · exact hw.elim
      · exact ⟨hw, hq⟩
end ZR
