/-! ===== the statement is false by its room: from any start with room to spare the law's first object alone makes more slots than the statement's end allows ===== -/
section RF
theorem zl_set : ∀ (L : List Nat) (a : Nat), L.sum = L.getD a 0 + (L.set a 0).sum := by
  intro L
  induction L with
  | nil => intro a; simp
  | cons x L ih =>
    intro a
    cases a with
    | zero => simp
    | succ a =>
      have h := ih a
      simp only [List.set_cons_succ, List.sum_cons, List.getD_cons_succ]
      omega
/-- at places that are apart no more than all -/
theorem zl_sum : ∀ (l : List Nat) (L : List Nat), l.Nodup → (l.map (fun i => L.getD i 0)).sum ≤ L.sum := by
  intro l
  induction l with
  | nil => intro L _; simp
  | cons a l ih =>
    intro L hn
    have h1 := zl_set L a
    have h2 := ih (L.set a 0) (List.nodup_cons.mp hn).2
    have h3 : l.map (fun i => L.getD i 0) = l.map (fun i => (L.set a 0).getD i 0) := List.map_congr_left (fun i hi => by
      have h4 : a ≠ i := fun e => (List.nodup_cons.mp hn).1 (e ▸ hi)
      simp only [List.getD_eq_getElem?_getD, List.getElem?_set_ne h4])
    rw [List.map_cons, List.sum_cons, h3]
    omega
theorem zl_le {f g : Nat → Nat} : ∀ (l : List Nat), (∀ a ∈ l, f a ≤ g a) → (l.map f).sum ≤ (l.map g).sum := by
  intro l
  induction l with
  | nil => intro _; simp
  | cons a l ih =>
    intro h
    have h1 := h a List.mem_cons_self
    have h2 := ih (fun b hb => h b (List.mem_cons_of_mem _ hb))
    simp only [List.map_cons, List.sum_cons]
    omega
variable {D : va_G} {base b : Nat} {xs : Nat → Int32} {s : State} {S : zS} {I : zM} {ad : Nat → Nat} {cA : Nat → ClassId} {F : Nat → Nat → Int32} {H : Heap}
/-- the heap holds the arrays of the picture, at places that are apart: so at the least their elements -/
theorem zWo_slots (W0 : zWo D base b xs ad cA F S I s H) : zar S ≤ ((H.toList.drop base).map (fun c => c.slots.size)).sum := by
  obtain ⟨tys, ws, hK, hP, hD, hsz, hbb, hX, hXl, hXv, hlen, hcell, hI, hN⟩ := W0
  have hget : ∀ a, a < S.1.length → ∃ q, S.1[a]? = some q := fun a ha => ⟨S.1[a], List.getElem?_eq_getElem ha⟩
  have e1 : S.1.map (fun q => if q.1 ≤ 1 then q.2.getD 0 0 else 0) = (List.range S.1.length).map (fun a => match S.1[a]? with
      | some q => if q.1 ≤ 1 then q.2.getD 0 0 else 0
      | none => 0) := by
    refine List.ext_getElem (by simp) (fun i h1 h2 => ?_)
    simp at h1
    simp [List.getElem?_eq_getElem h1]
  have hbase : ∀ a, a < S.1.length → base ≤ ad a := fun a ha => by
    obtain ⟨q, hq⟩ := hget a ha
    exact hD.2 a _ (hcell a q hq).1
  have hnd : ((List.range S.1.length).map (fun a => ad a - base)).Nodup := by
    refine List.pairwise_map.mpr (List.Pairwise.imp_of_mem ?_ List.pairwise_lt_range)
    intro a a' ha ha' hlt he
    have ha := List.mem_range.mp ha
    have ha' := List.mem_range.mp ha'
    have h1 := hbase a ha
    have h2 := hbase a' ha'
    obtain ⟨q, hq⟩ := hget a ha
    obtain ⟨q', hq'⟩ := hget a' ha'
    have h3 := hD.1 a a' _ _ (hcell a q hq).1 (hcell a' q' hq').1 (show ad a = ad a' by omega)
    omega
  have h5 := zl_sum _ ((H.toList.drop base).map (fun c => c.slots.size)) hnd
  refine Nat.le_trans ?_ h5
  unfold zar
  rw [e1, List.map_map]
  refine zl_le _ (fun a ha => ?_)
  have ha := List.mem_range.mp ha
  obtain ⟨q, hq⟩ := hget a ha
  rw [hq]
  dsimp only [Function.comp]
  by_cases h1 : q.1 ≤ 1
  · rw [if_pos h1]
    have h2 := hP a _ (hcell a q hq).1
    rw [zE_arr h1] at h2
    have h3 : H[ad a]? = some (vp_cell (cA a) (q.2.getD 0 0, .inl (F a))) := h2
    have h4 := hbase a ha
    have h6 : ((H.toList.drop base).map (fun c => c.slots.size)).getD (ad a - base) 0 = q.2.getD 0 0 := by
      rw [List.getD_eq_getElem?_getD, List.getElem?_map, List.getElem?_drop, show base + (ad a - base) = ad a by omega, Array.getElem?_toList, h3]
      simp [vp_cell, arrV]
    omega
  · rw [if_neg h1]; omega
end RF
/-- the room of the walk: the statement's, but for the slots -/
def zRw : Room := { frames := 10, cells := 178, slots := 8000, locals := 406 }
theorem zs_new {k pc i ci N : Nat} {ls st : List zV} {S : zS} {I : zM} (h : decode (bk k) pc = .ok (.new i, 3)) (hn : nw (ok k) i = some ci) (hN : nf ci = N) : stp k pc ls st S I = some (.inl (pc + 3, ls, vR S.1.length :: st, sp S (ci + 2, List.replicate N 0), cz I S.1.length)) := by
  subst hN; simp only [stp, h, sti, hn]; rw [if_pos trivial]; rfl
theorem zs_dup {k pc : Nat} {v : zV} {ls st : List zV} {S : zS} {I : zM} (h : decode (bk k) pc = .ok (.dup, 1)) (hv : zl v = false) : stp k pc ls (v :: st) S I = some (.inl (pc + 1, ls, v :: v :: st, S, I)) := by
  simp only [stp, h, sti]; rw [if_pos ⟨trivial, hv⟩]; rfl
theorem zs_ci {k pc i q k' n a : Nat} {ls st rest ls0 : List zV} {S : zS} {I : zM} (h : decode (bk k) pc = .ok (.invokespecial i, 3)) (hl : lkk (ok k) i = some (q, k')) (hq : q ≤ 1 ∧ ik k' = 2) (hn : nk k' = n) (hc : kd S a = ok k' + 2) (h1 : st.drop n = vR a :: rest) (h2 : (st.take n).length = n) (h3 : zro k k') (h4 : zws rest ≤ 8) (h5 : zok k' (vR a :: (st.take n).reverse)) (h6 : zen k' (vR a :: (st.take n).reverse) = ls0) : stp k pc ls st S I = some (.inr (.inl (k', ls0, rest))) := by
  subst hn; subst h6
  have h1 : st.drop (nk k') = Sum.inr (Sum.inl a) :: rest := h1
  simp only [stp, h, sti, hl, zcv, h1]; rw [if_pos trivial, if_pos hq, if_pos ⟨h2, hc, h3, h4, h5⟩]; rfl
/-- from the law's entry, with room to spare, the machine comes to a heap with more than 2740 slots more -/
theorem zwalk {p : Program} {e : Env} {s : State} {m : MethodId} {below : List Frame} {meth : Method} {c : Code} (l : Launch) {b L : Nat} {xs : Nat → Int32} (hL : L < 2147483648) (hx : p.tables.exec = Jvm.exec) (hb : c.code = code) (hml : c.maxLocals = 4) (hown : s.vm.findClass "ClauseDraftsLaw" = some m.cls) (hts : ∀ w ∈ lw_tbl, w.before #[Value.ref b] s = true) (hX : va_X b L xs s s.heap) (hbl : b < s.heap.size) : W p l e zRw s m #[Value.ref b] below meth c s.heap [] 0 0 (fun t => s.slotsUsed + 2740 < t.slotsUsed) (entryFrame m ([Value.ref b] : List Value).toArray 4) := by
  have hKn : ∀ ci, ci < 13 → ∃ (cC : ClassId) (iS : Nat → Nat), u_Kn s (cR ci) (cT ci) (cN ci) cC iS := fun ci hci => by
    obtain ⟨c0, iS0, hK0⟩ := u_known (C := cR ci) (T := cT ci) (N := cN ci) (n := cN ci) hts (zt_ws ci hci) (hts _ (List.mem_of_getElem? (zt_ins ci hci).1))
    exact ⟨c0, iS0, hK0⟩
  have hDx : ∃ D : va_G, va_K D vwCl [] s := by
    refine ⟨(fun ci => if h : ci < 13 then Classical.choose (hKn ci h) else 0, fun ci => if h : ci < 13 then Classical.choose (Classical.choose_spec (hKn ci h)) else fun _ => 0), fun ci q hq => ?_, fun k q h => by simp at h⟩
    have hci : ci < 13 := (List.getElem?_eq_some_iff.mp hq).1
    rw [zt_cls ci hci] at hq
    cases hq
    dsimp only
    rw [dif_pos hci, dif_pos hci]
    exact Classical.choose_spec (Classical.choose_spec (hKn ci hci))
  obtain ⟨D, hK⟩ := hDx
  have hN : ∀ r ∈ zlk_l, r.2.2.1 = 1 → va_Nw (zlc r) s := by
    intro r hr h1
    have h2 := hts _ (List.mem_of_getElem? (zt_link r hr).1)
    rw [zlc_1 h1] at h2 ⊢
    exact va_Nw.of rfl h2
  have W0 : zWo D s.heap.size b xs (fun _ => 0) (fun _ => 0) (fun _ _ => 0) ([], L, fun j => (xs j.toNat).toInt) (fun _ _ => 0) s s.heap := by
    refine ⟨[], [], hK, fun k q h => by simp at h, ⟨fun i j p q h => by simp at h, fun k q h => by simp at h⟩, Nat.le_refl _, hbl, hX, hL, fun j hj => by simp, rfl, fun a q h => by simp at h, fun a j h => by simp at h, hN⟩
  have Cx : zCx 13 zRw p s m #[Value.ref b] meth c := ⟨hx, hb, hml, hown, fun w hw => hts w (List.mem_filter.mp hw).1, by decide +kernel, by decide +kernel, fun z => absurd z (by decide +kernel)⟩
  rw [lg_entry_eq]
  have hA : zSr b (fun _ => 0) 0 [vX] [Value.ref b] := ⟨rfl, trivial⟩
  have hen : zen 13 [vX] = [vX, vU, vU, vU] := by decide +kernel
  have hL0 := zen_rel (k := 13) hA (by decide +kernel)
  rw [hen] at hL0
  have hlk : lk 13 = 4 := by decide +kernel
  have hL1 : zLr b (fun _ => 0) 0 (lk 13) (hk 13) ((lg_sl [Value.ref b] ++ List.replicate (4 - (lg_sl [Value.ref b]).length) Slot.unset).toArray) [vX, vU, vU, vU] := by rw [hlk] at hL0 ⊢; exact hL0
  generalize (fun j : Int => (xs j.toNat).toInt) = X at W0
  generalize hI0 : (fun (_ : Nat) (_ : Int) => (0 : Int)) = I0 at W0
  have s1 : stp 13 0 [vX, vU, vU, vU] [] ([], L, X) I0 = some (.inl (0 + 3, [vX, vU, vU, vU], [vR 0], sp ([], L, X) (13, List.replicate 11 0), cz I0 0)) := zs_new (by decide +kernel : decode (bk 13) 0 = .ok (.new 7, 3)) (by decide +kernel : nw (ok 13) 7 = some 11) (by decide +kernel)
  have s2 : stp 13 3 [vX, vU, vU, vU] [vR 0] (sp ([], L, X) (13, List.replicate 11 0)) (cz I0 0) = some (.inl (3 + 1, [vX, vU, vU, vU], [vR 0, vR 0], sp ([], L, X) (13, List.replicate 11 0), cz I0 0)) := zs_dup (by decide +kernel : decode (bk 13) 3 = .ok (.dup, 1)) rfl
  have hk0 : kd (sp ([], L, X) (13, List.replicate 11 0)) 0 = 13 := kd_spn ([], L, X) (13, List.replicate 11 0)
  have s3 : stp 13 4 [vX, vU, vU, vU] [vR 0, vR 0] (sp ([], L, X) (13, List.replicate 11 0)) (cz I0 0) = some (.inr (.inl (11, [vR 0], [vR 0]))) := zs_ci (n := 0) (a := 0) (by decide +kernel : decode (bk 13) 4 = .ok (.invokespecial 9, 3)) (by decide +kernel : lkk (ok 13) 9 = some (0, 11)) (by decide +kernel) (by decide +kernel) (hk0.trans (by decide +kernel)) rfl rfl (by decide +kernel) (by decide +kernel) (by decide +kernel) (by decide +kernel)
  obtain ⟨n, ⟨r, S2, I2⟩, hex, hr1, hG⟩ := c_X11 0 (sp ([], L, X) (13, List.replicate 11 0)) (cz I0 0) hk0
  dsimp only at hr1 hG
  obtain ⟨g1, g2, g3, -⟩ := hG
  have l1 : (sp ([], L, X) (13, List.replicate 11 0)).1.length = 1 := rfl
  have z0 : zsl (([], L, X) : zS) = 0 := rfl
  have z1 : zsl (sp ([], L, X) (13, List.replicate 11 0)) = 11 := rfl
  have a1 : zar (sp ([], L, X) (13, List.replicate 11 0)) = 0 := rfl
  rw [a1] at g1
  rw [l1] at g2
  rw [z1] at g3
  refine z_next Cx (Nat.le_refl _) W0 va_S.rf hL1 (show zSr b (fun _ => 0) 0 [] [] from trivial) s1 (by rw [l1]; exact Nat.le_of_ble_eq_true rfl) (by rw [z1, z0]; exact Nat.le_of_ble_eq_true rfl) ?_
  intro ad1 cA1 F1 H1 locs1 ls1 st1 W1 hS1 hLr1 hT1 had1
  refine z_next Cx (Nat.le_refl _) W1 hS1 hLr1 hT1 s2 (by rw [l1]; exact Nat.le_of_ble_eq_true rfl) (by rw [z1, z0]; exact Nat.le_of_ble_eq_true rfl) ?_
  intro ad2 cA2 F2 H2 locs2 ls2 st2 W2 hS2 hLr2 hT2 had2
  have hC := z_call_inv s3
  obtain ⟨rest', a, hq', hrun⟩ := z_callrun (l := l) (e := e) (below := below) (locs := locs2) (cells := 0 + ((sp ([], L, X) (13, List.replicate 11 0)).1.length - (([], L, X) : zS).1.length) + ((sp ([], L, X) (13, List.replicate 11 0)).1.length - (sp ([], L, X) (13, List.replicate 11 0)).1.length)) (slots := 0 + (zsl (sp ([], L, X) (13, List.replicate 11 0)) - zsl (([], L, X) : zS)) + (zsl (sp ([], L, X) (13, List.replicate 11 0)) - zsl (sp ([], L, X) (13, List.replicate 11 0)))) (r := r) (S1 := S2) (I1 := I2) (mc := S2.1.length - (sp ([], L, X) (13, List.replicate 11 0)).1.length) (ms := zsl S2 - zsl (sp ([], L, X) (13, List.replicate 11 0))) Cx W2 hLr2 hT2 hC (fun av As hls hok hAs => zmet (zfollow l D s.heap.size b xs n) (by decide) (by rw [← hls]; exact hex) hok hAs) ⟨by
      rw [l1, g2]; exact Nat.le_of_ble_eq_true rfl, by rw [z1, z0, g3]; exact Nat.le_of_ble_eq_true rfl⟩
  refine zcall_go hrun W2 hS2 ?_
  intro ad3 cA3 F3 H3 locs3 rv3 W3 hS3 hrv3 had3
  intro T hT X0
  refine ⟨_, Steps.refl _, ?_⟩
  have h4 : T.slotsUsed = s.slotsUsed + ((T.heap.toList.drop s.heap.size).map (fun c => c.slots.size)).sum := X0.same.2.2.2.1
  have h5 := zWo_slots W3
  rw [hT] at h4
  show s.slotsUsed + 2740 < T.slotsUsed
  omega
/-- an end of the run that began in s, with no more than 2740 slots more than there -/
def zSmall (p : Program) (e : Env) (below : List Frame) (s : State) : Prop := ∃ (n : Nat) (o : Outcome), (∀ k, k < n → Within (stepsAlone p.tables e k s) below) ∧ Ended (stepsAlone p.tables e n s) below o ∧ (stepsAlone p.tables e n s).slotsUsed ≤ s.slotsUsed + 2740
def zArg (b : Addr) (xs : List Int32) (args : Array Value) (s : State) : Prop := args = #[.ref b] ∧ s.IntsAt b xs
/-- with room to spare no run of the law has such an end -/
theorem zbig (l : Launch) (b : Addr) (xs : List Int32) : MetFree l x (headSpec (Jvm.Cond.code x code maxLocals ret :: tables_1) zRw) (zArg b xs) (fun p e below s _ => zSmall p e below s) (fun _ _ _ _ => False) := by
  refine MetFree.of_bodyR (code := code) (maxLocals := maxLocals) (ret := ret) (by decide) ?_ ?_
  · intro args s m h hn
    obtain ⟨meth, c, h1, h2, h3, h4, h5, h6, -, -⟩ := Cond.code_spec hn (atoms_spec (ws := Jvm.Cond.code x code maxLocals ret :: tables_1) h _ List.mem_cons_self)
    exact ⟨meth, c, h1, h2, h3, h4, h5, h6⟩
  · intro p e s m args below meth c s₁ B hml0 hP hsm hst
    exfalso
    obtain ⟨rfl, hx⟩ := hP
    obtain ⟨scr, harrAt, hlist, hof, hsmall⟩ := hx
    obtain ⟨hcb, hkn, -, -⟩ := State.arrayAt?_spec harrAt
    have hown : s.vm.findClass "ClauseDraftsLaw" = some m.cls := findClass_of_methodNamed B.named
    have hts0 : ∀ c ∈ (Jvm.Cond.code x code maxLocals ret :: tables_1), c.before #[Value.ref b] s = true := atoms_spec (ws := Jvm.Cond.code x code maxLocals ret :: tables_1) B.pre
    have hts : ∀ w ∈ lw_tbl, w.before #[Value.ref b] s = true := k2_hts_sels lw_privs (fun w hw => hts0 w (List.mem_cons_of_mem _ hw)) lw_privs_ok
    have hml : c.maxLocals = 4 := B.maxLocals_eq (hts0 _ List.mem_cons_self)
    have X₀ : Stand p l e zRw s m #[Value.ref b] below meth c s₁ [] 0 0 := Stand.of_body B
    have hh0 : s₁.heap = s.heap := by rw [B.state]; rfl
    have hsz : scr.slots.size = xs.length := by rw [← Array.length_toList, hlist, List.length_map]
    have hval : ∀ j : Nat, j < xs.length → scr.slots[j]? = some (.int (xs.getD j 0)) := fun j hj => by
      rw [← Array.getElem?_toList, hlist]
      simp [hj]
    have hbl : b < s.heap.size := (Array.getElem?_eq_some_iff.mp hcb).1
    have hX : va_X b xs.length (fun j => xs.getD j 0) s s.heap := ⟨scr, hcb, hof, hkn, hsz, hval⟩
    have hlen : xs.length < 2147483648 := hsmall
    have K := zwalk (e := e) (below := below) (meth := meth) l hlen B.exec B.bytes hml hown hts hX hbl
    obtain ⟨t, a1, hbig⟩ := K s₁ hh0 X₀
    obtain ⟨k, hk, hw⟩ := hst.trans a1
    obtain ⟨n, o, hwn, hend, hle⟩ := hsm
    rcases Nat.lt_or_ge n k with h | h
    · exact hend.not_within (hw n h)
    · have h2 := (stepsAlone_heap_grows_add p.tables e k (n - k) s).2
      rw [hk, show k + (n - k) = n by omega] at h2
      have hbig : s.slotsUsed + 2740 < t.slotsUsed := hbig
      omega
theorem zarg_spec {args : Array Value} {s : State} (h : (Jvm.Cond.and given_1 narrow_1).before args s = true) (hr : rest_1_c.before args s = true) : ∃ (b : Addr) (xs : List Int32), zArg b xs args s := by
  have hs := flat_of_before _ h
  have hq := flat_of_before _ hr
  have hc : (Cond.count 1).before args s = true := hs _ (by decide +kernel)
  have harr : (Cond.arrayOf (.arg 0) .int).before args s = true := hs _ (by decide +kernel)
  have hlen : (Cond.isInt (.length (.arg 0))).before args s = true := hq _ (by decide +kernel)
  have hall : (Cond.all (.arg 0) (.isInt (.elem (.arg 0) (.index 0)))).before args s = true := hq _ (by decide +kernel)
  obtain ⟨b, xs, hb, hx⟩ := State.ints_of_pre rfl harr hlen hall
  exact ⟨b, xs, Cond.one_arg hc (show args[0]? = some (.ref b) from hb), hx⟩
/-- THE REFUTATION, at any start that the statement allows and that has 8000 slots of room: the first limb of the claim fails there -/
theorem znot {l : Launch} {p : Program} {e : Env} {s : State} {m : MethodId} {args : Array Value} {below : List Frame} (hfl : l.flags = flags0) (hA : AtStart classFile x code maxLocals ret World_1 tables_1 room_1 Calls_1 rest_1 Pre_1 l p e s m args below) (hR : s.hasRoom e.platform zRw = true) : ¬ Claimed_1_1 := by
  intro hC
  obtain ⟨hLi, hWo, had, hle, hcas, hclk, hf, hfit, hheap, happ, hcalls, hrest, hpre⟩ := hA
  obtain ⟨n, o, h1, h2, h3, h4⟩ := hC l hfl hLi hWo p e had hcas hclk s m args below hf hfit hheap happ ⟨hcalls, hrest, hpre⟩
  obtain ⟨-, -, -, hS⟩ := h4
  have h5 : (stepsAlone p.tables e n s).slotsUsed = s.slotsUsed + (((stepsAlone p.tables e n s).heap.toList.drop s.heap.size).map (fun c => c.slots.size)).sum := hS.2.2.2.1
  have h6 : (((stepsAlone p.tables e n s).heap.toList.drop s.heap.size).map (fun c => c.slots.size)).sum ≤ 2740 := hS.2.2.2.2.1
  obtain ⟨b, xs, hP⟩ := zarg_spec hpre hrest
  obtain ⟨i1, i2, i3, i4, i5, i6, i7, i8⟩ := (Spec.applies_iff hf).mp happ
  have happ2 : (headSpec (Jvm.Cond.code x code maxLocals ret :: tables_1) zRw).applies x e.platform s = true := (Spec.applies_iff hf).mpr ⟨i1, i2, i3, i4, i5, i6, hR, i8⟩
  obtain ⟨_, _, _, _, _, hfalse⟩ := zbig l b xs p e had hcas hclk s m args below hf ((Spec.applies_iff_loose hf).mp happ2).1 hP ⟨n, o, h1, h3, by omega⟩
  exact hfalse
