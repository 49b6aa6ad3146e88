section ZS
variable {D : va_G} {base b : Nat} {xs : Nat → Int32} {k : Nat} {p : Program} {l : Launch} {e : Env} {R : Room} {s : State} {m : MethodId} {args : Array Value} {below : List Frame} {meth : Method} {c : Code} {Q : State → Prop} {S : zS} {I : zM} {ad : Nat → Nat} {cA : Nat → ClassId} {F : Nat → Nat → Int32} {H : Heap} {locs : List Loc} {cells slots pc : Nat} {ml mst : List zV} {ls : Array Slot} {st : List Value}
theorem zla_rel {n : Nat} : ∀ (av : List zV) (As : List Value), zSr b ad n av As → (zla av).length = (lg_sl As).length ∧ ∀ (i : Nat) (v : zV), (zla av)[i]? = some v → v = vU ∨ ∃ w, (lg_sl As)[i]? = some (.val w) ∧ zVr b ad n v w := by
  intro av
  induction av with
  | nil => intro As h; rw [zSr_n h]; exact ⟨rfl, fun i v h => by simp [zla] at h⟩
  | cons u av ih =>
    intro As h
    obtain ⟨w, As', rfl, h1, h2⟩ := zSr_c h
    obtain ⟨i1, i2⟩ := ih As' h2
    have hcat := zVr_cat h1
    have ea : zla (u :: av) = (if zl u = true then [u, vU] else [u]) ++ zla av := by simp [zla]
    have eb : lg_sl (w :: As') = (if w.category = 2 then [.val w, .second] else [.val w]) ++ lg_sl As' := by simp [lg_sl]
    rw [ea, eb]
    by_cases hz : zl u = true
    · have hc : w.category = 2 := by rw [hcat, zct, if_pos hz]
      rw [if_pos hz, if_pos hc]
      refine ⟨by simp [i1], fun i v hi => ?_⟩
      match i with
      | 0 =>
        simp at hi
        subst hi
        exact Or.inr ⟨w, by simp, h1⟩
      | 1 =>
        simp at hi
        exact Or.inl hi.symm
      | i + 2 =>
        have hi : (zla av)[i]? = some v := by simpa using hi
        rcases i2 i v hi with h | ⟨w', h3, h4⟩
        · exact Or.inl h
        · exact Or.inr ⟨w', by simpa using h3, h4⟩
    · have hc : ¬ w.category = 2 := by rw [hcat, zct, if_neg hz]; omega
      rw [if_neg hz, if_neg hc]
      refine ⟨by simp [i1], fun i v hi => ?_⟩
      match i with
      | 0 =>
        simp at hi
        subst hi
        exact Or.inr ⟨w, by simp, h1⟩
      | i + 1 =>
        have hi : (zla av)[i]? = some v := by simpa using hi
        rcases i2 i v hi with h | ⟨w', h3, h4⟩
        · exact Or.inl h
        · exact Or.inr ⟨w', by simpa using h3, h4⟩
theorem zla_nol {av : List zV} (h : av.all (fun v => !(zl v)) = true) : ∀ v ∈ zla av, zl v = false := by
  intro v hv
  obtain ⟨u, hu, hv⟩ := List.mem_flatMap.mp hv
  have h1 := List.all_eq_true.mp h u hu
  have h2 : zl u = false := by simpa using h1
  rw [h2] at hv
  simp at hv
  rw [hv]
  exact h2
theorem zen_rel {n : Nat} {av : List zV} {As : List Value} (h : zSr b ad n av As) (hz : zok k av) : zLr b ad n (lk k) (hk k) ((lg_sl As ++ List.replicate (lk k - (lg_sl As).length) Slot.unset).toArray) (zen k av) := by
  obtain ⟨h1, h2⟩ := zla_rel av As h
  obtain ⟨z1, z2⟩ := hz
  have he := lv_entry As (n := lk k) (by rw [← h1]; exact z1)
  refine ⟨he.1, he.2.1, by simp [zen]; omega, ?_, fun i v hi => ?_⟩
  · rcases z2 with z2 | z2
    · exact Or.inl z2
    · refine Or.inr (fun v hv => ?_)
      rcases List.mem_append.mp hv with hv | hv
      · exact zla_nol z2 v hv
      · rw [List.eq_of_mem_replicate hv]; rfl
  · unfold zen at hi
    by_cases hl : i < (zla av).length
    · rw [List.getElem?_append_left hl] at hi
      rcases h2 i v hi with h | ⟨w, h3, h4⟩
      · exact Or.inl h
      · refine Or.inr ⟨w, ?_, h4⟩
        rw [List.getElem?_toArray, List.getElem?_append_left (by rw [← h1]; exact hl)]
        exact h3
    · rw [List.getElem?_append_right (by omega)] at hi
      exact Or.inl (List.eq_of_mem_replicate (List.mem_of_getElem? hi))
/-- what a call of the mini machine says -/
def zCi (k pc k' : Nat) (mst : List zV) (S : zS) (ls0 rest : List zV) : Prop := ∃ (i q : Nat), lkk (ok k) i = some (q, k') ∧ q ≤ 1 ∧ zro k k' ∧ zws rest ≤ 8 ∧ (mst.take (nk k')).length = nk k' ∧
  ((∃ a, ((decode (bk k) pc = .ok (.invokevirtual i, 3) ∧ ik k' = 1) ∨ (decode (bk k) pc = .ok (.invokespecial i, 3) ∧ ik k' = 2)) ∧ mst.drop (nk k') = .inr (.inl a) :: rest ∧ kd S a = ok k' + 2 ∧ zok k' (vR a :: (mst.take (nk k')).reverse) ∧ ls0 = zen k' (vR a :: (mst.take (nk k')).reverse)) ∨
   (decode (bk k) pc = .ok (.invokestatic i, 3) ∧ ik k' = 0 ∧ mst.drop (nk k') = rest ∧ zok k' (mst.take (nk k')).reverse ∧ ls0 = zen k' (mst.take (nk k')).reverse))
theorem z_call_inv {k' : Nat} {ls0 rest : List zV} (h : stp k pc ml mst S I = some (.inr (.inl (k', ls0, rest)))) : zCi k pc k' mst S ls0 rest := by
  unfold stp at h
  cases hd : decode (bk k) pc with
  | error z => rw [hd] at h; cases h
  | ok q =>
    rw [hd] at h
    obtain ⟨ins, len⟩ := q
    dsimp only at h
    cases ins
    case invokevirtual i =>
      simp only [sti] at h
      split at h
      · rename_i h0
        subst h0
        split at h
        · rename_i q0 hv
          obtain ⟨q, k2⟩ := q0
          split at h
          · rename_i hq
            simp only [zcv] at h
            split at h
            · rename_i a rest' hdr
              split at h
              · rename_i hh
                simp only [zcl, Option.some.injEq, Sum.inr.injEq, Sum.inl.injEq, Prod.mk.injEq] at h
                obtain ⟨rfl, rfl, rfl⟩ := h
                exact ⟨i, q, hv, hq.1, hh.2.2.1, hh.2.2.2.1, hh.1, Or.inl ⟨a, Or.inl ⟨hd, hq.2⟩, hdr, hh.2.1, hh.2.2.2.2, rfl⟩⟩
              · cases h
            · cases h
          · cases h
        · cases h
      · cases h
    case invokespecial i =>
      simp only [sti] at h
      split at h
      · rename_i h0
        subst h0
        split at h
        · rename_i q0 hv
          obtain ⟨q, k2⟩ := q0
          split at h
          · rename_i hq
            simp only [zcv] at h
            split at h
            · rename_i a rest' hdr
              split at h
              · rename_i hh
                simp only [zcl, Option.some.injEq, Sum.inr.injEq, Sum.inl.injEq, Prod.mk.injEq] at h
                obtain ⟨rfl, rfl, rfl⟩ := h
                exact ⟨i, q, hv, hq.1, hh.2.2.1, hh.2.2.2.1, hh.1, Or.inl ⟨a, Or.inr ⟨hd, hq.2⟩, hdr, hh.2.1, hh.2.2.2.2, rfl⟩⟩
              · cases h
            · cases h
          · split at h
            · simp only [zob, nx] at h
              repeat' split at h
              all_goals (cases h; done)
            · cases h
        · cases h
      · cases h
    case invokestatic i =>
      simp only [sti] at h
      split at h
      · rename_i h0
        subst h0
        split at h
        · rename_i q0 hv
          obtain ⟨q, k2⟩ := q0
          split at h
          · rename_i hq
            simp only [zcs] at h
            split at h
            · rename_i hh
              simp only [zcl, Option.some.injEq, Sum.inr.injEq, Sum.inl.injEq, Prod.mk.injEq] at h
              obtain ⟨rfl, rfl, rfl⟩ := h
              exact ⟨i, q, hv, hq.1, hh.2.1, hh.2.2.1, hh.1, Or.inr ⟨hd, hq.2, rfl, hh.2.2.2, rfl⟩⟩
            · cases h
          · split at h
            · simp only [zmx, nx] at h
              repeat' split at h
              all_goals (cases h; done)
            · cases h
        · cases h
      · cases h
    all_goals first
      | (simp only [sti] at h; cases h; done)
      | (simp only [sti, zgf, zpf, zal, zas, zrt, nx] at h
         repeat' split at h
         all_goals (cases h; done))
def zRm (k mc ms : Nat) : Room := { frames := fk k, cells := mc, slots := ms, locals := ck k }
theorem zlc_0 {r : Nat × Nat × Nat × Nat × Nat} (h : r.2.2.1 = 0) : zlc r = Cond.methodLink (cn r.1) r.2.1 (yk r.2.2.2.1) := by
  unfold zlc
  rw [h]
  rfl
theorem zlc_1 {r : Nat × Nat × Nat × Nat × Nat} (h : r.2.2.1 = 1) : zlc r = Cond.methodLinkNest (cn r.1) r.2.1 (yk r.2.2.2.1) "ClauseDrafts" := by
  unfold zlc
  rw [h]
  rfl
theorem z_callrun {k' : Nat} {ls0 rest : List zV} {r : zV} {S1 : zS} {I1 : zM} {mc ms : Nat} (Cx : zCx k R p s m args meth c) (W0 : zWo D base b xs ad cA F S I s H) (hL : zLr b ad S.1.length (lk k) (hk k) ls ml) (hT : zSr b ad S.1.length mst st) (hC : zCi k pc k' mst S ls0 rest)
    (hM : ∀ (av : List zV) (As : List Value), ls0 = zen k' av → zok k' av → zSr b ad S.1.length av As → Met l (yk k') (wk k') (zRm k' mc ms) (zPc2 D base b xs ad cA F S I As) (zQc D base b xs ad S r S1 I1) mc ms (fun q => base ≤ q)) (hf : cells + mc ≤ R.cells ∧ slots + ms ≤ R.slots) :
    ∃ (rest' : List Value) (a : Array Value), zSr b ad S.1.length rest rest' ∧ va_Run p l e R s m args below meth c H locs cells slots mc ms (F0 m pc ls st) rest' (zQc D base b xs ad S r S1 I1 a) (fun q => base ≤ q) := by
  obtain ⟨hx, hb, hml, hown, hts, hRf, hRl, hni⟩ := Cx
  obtain ⟨i, q, hlk, hq1, hro, hws, htl, hC⟩ := hC
  obtain ⟨r0, hr0, e1, e2, e3, e4, hlc, hk'⟩ := zlkk_of hlk
  obtain ⟨y1, y2, y3, y4, y5, y6, y7, y8⟩ := zt_misc k' hk'
  obtain ⟨tys, ws, hK, hP, hD, hsz, hbb, hX, hXl, hXv, hlen, hcell, hI, hN⟩ := id W0
  obtain ⟨ht1, ht2⟩ := zSr_take (nk k') _ _ hT
  have hlen1 := zSr_len _ _ ht1
  have hini : (Cond.initialized (yk k').cls).before args s = true := hts _ (zt_gp (zt_init k' hk') rfl)
  have hin0 := zt_inst k' hk'
  have hG := wk_good k' hk'
  have hRR : (zRm k' mc ms).frames + 1 ≤ R.frames ∧ 8 + (lk k' + 11) + (zRm k' mc ms).locals ≤ R.locals := by
    rw [hRf, hRl]
    exact hro
  have hblk : ∀ (As : List Value), ∀ U : State, U.heap = H → s.WarmedH U.vm → zPc2 D base b xs ad cA F S I As As.toArray U := fun As U hU hW => ⟨rfl, by rw [hU]; exact zWo_al W0 hW.alike (zNw_warm hW hN)⟩
  have hdd : (yk k').cls ≠ "java/lang/invoke/MethodHandle" ∧ (yk k').cls ≠ "java/lang/invoke/VarHandle" ∧ (parseMethodDescriptor (yk k').desc).map (fun d => d.parameters.length) = some (nk k') := ⟨y2, y3, y5⟩
  have hst : st = st.take (nk k') ++ st.drop (nk k') := (List.take_append_drop _ _).symm
  rcases hC with ⟨a, hk, hdr, hkd, hok, hls⟩ | ⟨hdc, hik, hdr, hok, hls⟩
  · rw [hdr] at ht2
    obtain ⟨rest', hr', ha, hq'⟩ := zSr_r ht2
    have hw8 : (rest'.map fun v => v.category).sum ≤ 8 := by rw [zSr_ws _ _ hq']; exact hws
    have hAs : zSr b ad S.1.length (vR a :: (mst.take (nk k')).reverse) (.ref (ad a) :: (st.take (nk k')).reverse) := ⟨⟨rfl, ha⟩, zSr_rev _ _ ht1⟩
    have hM1 := hM _ _ hls hok hAs
    have hstk : (F0 m pc ls st).stack = ((st.take (nk k')).reverse).reverse ++ .ref (ad a) :: rest' := by rw [List.reverse_reverse, ← hr']; exact hst
    have hAl : ((st.take (nk k')).reverse).length = nk k' := by rw [List.length_reverse, ← hlen1]; exact htl
    obtain ⟨qc, hqc, hqc1, hsd, halt⟩ := kd_some hkd (by omega)
    obtain ⟨c1, c2, c3, c4⟩ := hcell a qc hqc
    rw [zE_obj hqc1] at c1
    have hrec := va_recv hK hP (zt_cls (ok k') y7) c1
    have hrec : ∃ cell : Cell, H[ad a]? = some cell ∧ cell.vm.isStatics = false ∧ s.vm.findClass (yk k').cls = some cell.cls := by rw [y1, y8]; exact hrec
    rcases hk with ⟨hdc, hik⟩ | ⟨hdc, hik⟩
    · rw [if_neg (by omega)] at hin0
      have hin1 := hts _ (zt_gp hin0 rfl)
      have hsel := hts _ (zt_gp (zt_sel k' hk' hik) rfl)
      have hpv : PreV s H (yk k').cls (ad a) (zPc2 D base b xs ad cA F S I (.ref (ad a) :: (st.take (nk k')).reverse)) ((st.take (nk k')).reverse) := ⟨zPc_blind, hrec, hblk _⟩
      refine ⟨rest', (Value.ref (ad a) :: (st.take (nk k')).reverse).toArray, hq', ?_⟩
      have : q = 0 ∨ q = 1 := by omega
      rcases this with z | z
      · rw [zlc_0 (by omega), e1, e2, e4] at hlc
        exact va_runV ⟨hx, hb, hml, hown, hts⟩ hM1 ⟨callB_of (nk k') hts hG rfl rfl rfl hini (hts _ (zt_g hlc rfl)) hdd hRR, hin1, hsel⟩ hpv rfl hAl hL.1 hstk (lv_room hw8) hdc hf
      · have hne := hN r0 hr0 (by omega)
        rw [zlc_1 (by omega), e1, e2, e4] at hne
        exact va_runVN ⟨hx, hb, hml, hown, hts⟩ hM1 ⟨va_cnB (nk k') hts hG rfl rfl rfl hne hini hdd hRR, hin1, hsel⟩ hpv rfl hAl hL.1 hstk (lv_room hw8) hdc hf
    · rw [if_neg (by omega)] at hin0
      have hin1 := hts _ (zt_gp hin0 rfl)
      have hps : PreS s H (zPc2 D base b xs ad cA F S I (.ref (ad a) :: (st.take (nk k')).reverse)) (.ref (ad a) :: (st.take (nk k')).reverse) := ⟨zPc_blind, hblk _⟩
      refine ⟨rest', (Value.ref (ad a) :: (st.take (nk k')).reverse).toArray, hq', ?_⟩
      obtain ⟨hnm, hrn⟩ := y6 hik
      have hwk : wk k' = Cond.code (yk k') (bk k') (lk k') none :: zgw := by rw [wk, hrn]
      have : q = 0 ∨ q = 1 := by omega
      rcases this with z | z
      · rw [zlc_0 (by omega), e1, e2, e4] at hlc
        exact va_runI ⟨hx, hb, hml, hown, hts⟩ hM1 ⟨callB_of (nk k') hts hG hwk rfl rfl hini (hts _ (zt_g hlc rfl)) hdd hRR, hnm, hin1⟩ hps rfl hAl hL.1 hstk (lv_room hw8) hdc hf
      · have hne := hN r0 hr0 (by omega)
        rw [zlc_1 (by omega), e1, e2, e4] at hne
        exact va_runIN ⟨hx, hb, hml, hown, hts⟩ hM1 ⟨va_cnB (nk k') hts hG hwk rfl rfl hne hini hdd hRR, hnm, hin1⟩ hps rfl hAl hL.1 hstk (lv_room hw8) hdc hf
  · rw [hdr] at ht2
    have hw8 : ((st.drop (nk k')).map fun v => v.category).sum ≤ 8 := by rw [zSr_ws _ _ ht2]; exact hws
    have hM1 := hM _ _ hls hok (zSr_rev _ _ ht1)
    have hstk : (F0 m pc ls st).stack = ((st.take (nk k')).reverse).reverse ++ st.drop (nk k') := by rw [List.reverse_reverse]; exact hst
    have hAl : ((st.take (nk k')).reverse).length = nk k' := by rw [List.length_reverse, ← hlen1]; exact htl
    rw [if_pos hik] at hin0
    have hin1 := hts _ (zt_gp hin0 rfl)
    have hps : PreS s H (zPc2 D base b xs ad cA F S I ((st.take (nk k')).reverse)) ((st.take (nk k')).reverse) := ⟨zPc_blind, hblk _⟩
    refine ⟨st.drop (nk k'), ((st.take (nk k')).reverse).toArray, ht2, ?_⟩
    have : q = 0 ∨ q = 1 := by omega
    rcases this with z | z
    · rw [zlc_0 (by omega), e1, e2, e4] at hlc
      exact va_runS ⟨hx, hb, hml, hown, hts⟩ hM1 ⟨callB_of (nk k') hts hG rfl rfl rfl hini (hts _ (zt_g hlc rfl)) hdd hRR, hin1⟩ hps rfl hAl hL.1 hstk (lv_room hw8) hdc hf
    · have hne := hN r0 hr0 (by omega)
      rw [zlc_1 (by omega), e1, e2, e4] at hne
      exact va_runSN ⟨hx, hb, hml, hown, hts⟩ hM1 ⟨va_cnB (nk k') hts hG rfl rfl rfl hne hini hdd hRR, hin1, trivial⟩ hps rfl hAl hL.1 hstk (lv_room hw8) hdc hf
end ZS
/-- from here to the method's end: the real machine does what the mini machine does -/
def zFol (l : Launch) (D : va_G) (base b : Nat) (xs : Nat → Int32) (n : Nat) : Prop := ∀ (k pc : Nat) (ml mst : List zV) (S : zS) (I : zM) (r : zV) (S' : zS) (I' : zM), ex n k pc ml mst S I = some (r, S', I') →
  ∀ (p : Program) (e : Env) (R : Room) (s : State) (m : MethodId) (args : Array Value) (below : List Frame) (meth : Method) (c : Code) (Q : State → Prop) (ad : Nat → Nat) (cA : Nat → ClassId) (F : Nat → Nat → Int32) (H : Heap) (locs : List Loc) (cells slots : Nat) (ls : Array Slot) (st : List Value),
    zCx k R p s m args meth c → base ≤ s.heap.size → zWo D base b xs ad cA F S I s H → va_S (fun q => base ≤ q) s.heap H locs → zLr b ad S.1.length (lk k) (hk k) ls ml → zSr b ad S.1.length mst st → cells + (S'.1.length - S.1.length) ≤ R.cells → slots + (zsl S' - zsl S) ≤ R.slots →
    (∀ (pc' : Nat) (ad' : Nat → Nat) (cA' : Nat → ClassId) (F' : Nat → Nat → Int32) (H' : Heap) (locs' : List Loc) (cells' slots' : Nat) (ls' : Array Slot) (rv : Option Value), zWo D base b xs ad' cA' F' S' I' s H' → va_S (fun q => base ≤ q) s.heap H' locs' → (∀ a, a < S.1.length → ad' a = ad a) → cells' ≤ cells + (S'.1.length - S.1.length) → slots' ≤ slots + (zsl S' - zsl S) → zEnd k pc' b ad' S'.1.length r rv → W p l e R s m args below meth c H' locs' cells' slots' Q (F0 m pc' ls' rv.toList)) →
    W p l e R s m args below meth c H locs cells slots Q (F0 m pc ls st)
theorem zmet {l : Launch} {D : va_G} {base b : Nat} {xs : Nat → Int32} {n : Nat} (hF : zFol l D base b xs n) {k : Nat} (hk0 : k < 13) {av : List zV} {S : zS} {I : zM} {r : zV} {S' : zS} {I' : zM} (h : ex n k 0 (zen k av) [] S I = some (r, S', I')) (hz : zok k av) {ad : Nat → Nat} {cA : Nat → ClassId} {F : Nat → Nat → Int32} {As : List Value} (hA : zSr b ad S.1.length av As) :
    Met l (yk k) (wk k) (zRm k (S'.1.length - S.1.length) (zsl S' - zsl S)) (zPc2 D base b xs ad cA F S I As) (zQc D base b xs ad S r S' I') (S'.1.length - S.1.length) (zsl S' - zsl S) (fun q => base ≤ q) := by
  obtain ⟨y1, y2, y3, y4, y5, y6, y7, y8⟩ := zt_misc k hk0
  refine Met.ofW (cc := bk k) (maxL := lk k) (ret := rk k) y4 rfl ?_
  intro p e s m args below meth c s₁ B hml hv
  obtain ⟨rfl, W0⟩ := hv
  have hx := B.exec
  have hb := B.bytes
  have hr := B.returns
  have hts := atoms_spec (ws := wk k) B.pre
  have hown : s.vm.findClass (yk k).cls = some m.cls := findClass_of_methodNamed B.named
  have hlocks := B.notSynchronized
  have hnm := (name_of_methodNamed B.named B.method).1
  have hbs : base ≤ s.heap.size := by
    obtain ⟨tys, ws, hK, hP, hD, hsz, -⟩ := W0
    exact hsz
  have Cx : zCx k (headSpec (wk k) (zRm k (S'.1.length - S.1.length) (zsl S' - zsl S))).room p s m As.toArray meth c := ⟨hx, hb, hml, by rw [← y1]; exact hown, fun w hw => hts w (List.mem_cons_of_mem _ hw), rfl, rfl, fun z => by rw [hnm]; exact (y6 z).1⟩
  rw [lg_entry_eq]
  refine hF k 0 (zen k av) [] S I r S' I' h p e _ s m As.toArray below meth c _ ad cA F s.heap [] 0 0 _ [] Cx hbs W0 va_S.rf (zen_rel hA hz) trivial (by show 0 + _ ≤ S'.1.length - S.1.length; omega) (by show 0 + _ ≤ zsl S' - zsl S; omega) ?_
  intro pc' ad' cA' F' H' locs' cells' slots' ls' rv W1 hS1 had hc hs hE
  refine W.widen (k := S'.1.length - S.1.length) (n := zsl S' - zsl S) (by omega) (by omega) ?_
  have hq : ∀ t : State, t.heap = H' → s.WarmedH t.vm → zQc D base b xs ad S r S' I' As.toArray s (.returned rv) t := by
    intro t ht hW
    refine ⟨⟨rv, ad', cA', F', rfl, hE.rv, ?_, had⟩, hS1.F ht⟩
    rw [ht]
    have hN := W1
    obtain ⟨tys, ws, hK, hP, hD, hsz, hbb, hX, hXl, hXv, hlen, hcell, hI, hN⟩ := hN
    exact zWo_al W1 hW.alike (zNw_warm hW hN)
  rcases hE with ⟨w, rfl, -, hd, hrt⟩ | ⟨a, -, -, rfl, hd, nm, hrt⟩ | ⟨-, rfl, hd, hrt⟩
  · rcases hrt with hrt | ⟨hrt, hw⟩
    · exact W.iret hx hb (hr.trans hrt) hq hS1.2.2 hd
    · exact W.zret (ty := .boolean) hx hb (hr.trans hrt) (by rcases hw with rfl | rfl <;> rfl) hq hS1.2.2 hd
  · exact W.aret hx hb (hr.trans hrt) (Or.inl ⟨nm, rfl⟩) (Or.inr ⟨_, rfl⟩) hq hS1.2.2 hd
  · exact W.vret hx hb (hr.trans hrt) hq hS1.2.2 hd
theorem zfollow (l : Launch) (D : va_G) (base b : Nat) (xs : Nat → Int32) : ∀ n, zFol l D base b xs n := by
  intro n
  induction n with
  | zero => intro k pc ml mst S I r S' I' h; simp [ex] at h
  | succ n ih =>
    intro k pc ml mst S I r S' I' h p e R s m args below meth c Q ad cA F H locs cells slots ls st Cx hbs W0 hS hL hT hc hs hret
    rw [ex] at h
    cases hst : stp k pc ml mst S I with
    | none => rw [hst] at h; cases h
    | some act =>
      rw [hst] at h
      rcases act with q | q | r0
      · obtain ⟨pc1, ml1, mst1, S1, I1⟩ := q
        dsimp only at h
        have g1 := stp_grow hst
        have g2 := ex_grow _ _ _ _ _ _ _ _ h
        dsimp only at g2
        refine z_next Cx hbs W0 hS hL hT hst (by omega) (by omega) ?_
        intro ad1 cA1 F1 H1 locs1 ls1 st1 W1 hS1 hL1 hT1 had1
        refine ih k pc1 ml1 mst1 S1 I1 r S' I' h p e R s m args below meth c Q ad1 cA1 F1 H1 locs1 _ _ ls1 st1 Cx hbs W1 hS1 hL1 hT1 (by omega) (by omega) ?_
        intro pc' ad' cA' F' H' locs' cells' slots' ls' rv W2 hS2 had2 hc2 hs2 hE
        exact hret pc' ad' cA' F' H' locs' cells' slots' ls' rv W2 hS2 (fun a ha => by rw [had2 a (by omega), had1 a ha]) (by omega) (by omega) hE
      · obtain ⟨k', ls0, rest⟩ := q
        dsimp only at h
        cases hcx : ex n k' 0 ls0 [] S I with
        | none => rw [hcx] at h; cases h
        | some v =>
          rw [hcx] at h
          obtain ⟨r1, S1, I1⟩ := v
          dsimp only at h
          have g1 := ex_grow _ _ _ _ _ _ _ _ hcx
          have g2 := ex_grow _ _ _ _ _ _ _ _ h
          dsimp only at g1 g2
          have hC := z_call_inv hst
          have hk' : k' < 13 := by
            obtain ⟨i, q, hlk, -⟩ := hC
            obtain ⟨r0, hr0, e1, e2, e3, e4, hlc, hk'⟩ := zlkk_of hlk
            exact hk'
          obtain ⟨rest', a, hq', hrun⟩ := z_callrun (l := l) (e := e) (below := below) (locs := locs) (cells := cells) (slots := slots) (r := r1) (S1 := S1) (I1 := I1) (mc := S1.1.length - S.1.length) (ms := zsl S1 - zsl S) Cx W0 hL hT hC (fun av As hls hok hAs => zmet ih hk' (by rw [← hls]; exact hcx) hok hAs) ⟨by omega, by omega⟩
          refine zcall_go hrun W0 hS ?_
          intro ad1 cA1 F1 H1 locs1 rv1 W1 hS1 hrv1 had1
          refine ih k (pc + 3) ml (zpu r1 rest) S1 I1 r S' I' h p e R s m args below meth c Q ad1 cA1 F1 H1 locs1 _ _ ls _ Cx hbs W1 hS1 (zLr_more hL had1 g1.1) (zSr_pu hrv1 (zSr_more had1 g1.1 _ _ hq')) (by omega) (by omega) ?_
          intro pc' ad' cA' F' H' locs' cells' slots' ls' rv W2 hS2 had2 hc2 hs2 hE
          exact hret pc' ad' cA' F' H' locs' cells' slots' ls' rv W2 hS2 (fun a ha => by rw [had2 a (by omega), had1 a ha]) (by omega) (by omega) hE
      · cases h
        obtain ⟨rv, rfl, hE⟩ := z_ret hst hT
        exact hret pc ad cA F H locs cells slots ls rv W0 hS (fun _ _ => rfl) (by omega) (by omega) hE
