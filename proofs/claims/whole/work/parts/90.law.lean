/-! THE CLAIM OUT OF ONE WALK OF THE LAW'S BODY. Your part is whole_start (and what it stands on); all else here is the same for every law, but numbers. -/
def R_law : String := "ClauseDraftsLaw"
def lw_P (b : Addr) (xs : List Int32) (args : Array Value) (s : State) : Prop := args = #[.ref b] ∧ s.IntsAt b xs ∧ xs.length ≤ 3072 ∧ (Jvm.Cond.and given_1 narrow_1).before args s = true
def lw_Q (_ : Array Value) (s : State) (o : Outcome) (t : State) : Prop := o = .returned (some (.int 1)) ∧ Framed s o t [] 178 2740
def lw_Z (below : List Frame) (a : Array Value) (s : State) : State → Prop := fun t => ∃ o, t.status = .running ∧ Ended t below o ∧ lw_Q a s o t
/-- the law's own end, with 1 on the stack, nothing written that was there before, its room as the claim has it -/
theorem lw_ret {p : Program} {l : Launch} {e : Env} {s : State} {m : MethodId} {below : List Frame} {meth : Method} {c : Code} {b : Nat} (hx : p.tables.exec = Jvm.exec) (hb : c.code = code) (hr : meth.sig.returnType = ret) (hlocks : meth.locks = false) {pc : Nat} {H : Heap} {ls : Array Slot} (hdg : decode code pc = .ok (.ireturn, 1)) : W p l e room_1 s m #[Value.ref b] below meth c H [] 178 2740 (lw_Z below #[Value.ref b] s) (F0 m pc ls [.int 1]) := by
  intro T hT X
  obtain ⟨fs, hret, hrun, hended, hW, hframe⟩ := X.leave (v := some (.int 1)) (hlocks := hlocks) (fun h => by rw [hr] at h; cases h)
  have hmeth' : T.vm.method? m = some meth := X.method'
  refine ⟨T.setFrames fs, ?_, .returned (some (.int 1)), hrun, hended, rfl, ⟨_, rfl⟩, hW, hframe⟩
  jvm_step X.here [X.here.top, hx, hb, hdg, hmeth', hr, ret, narrow_b1]
  (try refine ⟨rfl, ?_⟩); (try refine ⟨rfl, ?_⟩)
  first | (intro acts; rw [hret _ acts rfl rfl rfl]) | rw [hret _ _ rfl rfl rfl]
  exact Steps.refl _
/-- what holds at the law's entry: the machine, the code, the tables' words (any of lw_tbl by 'hts w (by decide +kernel)'), the script of L ints xs at the cell b, what the Statement gives of the start (any of its parts by flat_of_before) -/
def lw_At (p : Program) (s : State) (m : MethodId) (meth : Method) (c : Code) (b L : Nat) (xs : Nat → Int32) : Prop :=
  p.tables.exec = Jvm.exec ∧ c.code = code ∧ meth.sig.returnType = ret ∧ c.maxLocals = 4 ∧ s.vm.findClass R_law = some m.cls ∧ (∀ w ∈ lw_tbl, w.before #[Value.ref b] s = true) ∧ va_X b L xs s s.heap ∧ b < s.heap.size ∧ meth.locks = false ∧ (Jvm.Cond.and given_1 narrow_1).before #[Value.ref b] s = true
/-- what is owed of the mini machine: on every script its run of the law ends with 1, within the room -/
def zLaw : Prop := ∀ (L : Nat) (X : Int → Int), L ≤ 3072 → (∀ j, rg (X j)) → Wp 299 0 [vX, vU, vU, vU] [] ([], L, X) (fun _ _ => 0) (fun r S' _ => r = vI 1 ∧ S'.1.length ≤ 178 ∧ zsl S' ≤ 2740)
theorem whole_open (hz : zLaw) {p : Program} {e : Env} {s : State} {m : MethodId} {below : List Frame} {meth : Method} {c : Code} (l : Launch) (hflags : l.flags = flags0) {b L : Nat} {xs : Nat → Int32} (hL : L ≤ 3072) (C0 : lw_At p s m meth c b L xs) : W p l e room_1 s m #[Value.ref b] below meth c s.heap [] 0 0 (lw_Z below #[Value.ref b] s) (entryFrame m ([Value.ref b] : List Value).toArray 4) := by
  obtain ⟨hx, hb, hr, hml, hown, hts, hX, hbl, hlocks, hgv⟩ := C0
  obtain ⟨n, ⟨r, S', I'⟩, hex, hr1, hlen, hsl⟩ := hz L (fun j => (xs j.toNat).toInt) hL (fun j => zi_rg _)
  have hKn : ∀ ci, ci < 13 → ∃ (cC : ClassId) (iS : Nat → Nat), u_Kn s (cR ci) (cT ci) (cN ci) cC iS := fun ci hci => by
    obtain ⟨c0, iS0, hK0⟩ := u_known (C := cR ci) (T := cT ci) (N := cN ci) (n := cN ci) hts (zt_ws ci hci) (hts _ (List.mem_of_getElem? (zt_ins ci hci).1))
    exact ⟨c0, iS0, hK0⟩
  have hDx : ∃ D : va_G, va_K D vwCl [] s := by
    refine ⟨(fun ci => if h : ci < 13 then Classical.choose (hKn ci h) else 0, fun ci => if h : ci < 13 then Classical.choose (Classical.choose_spec (hKn ci h)) else fun _ => 0), fun ci q hq => ?_, fun k q h => by simp at h⟩
    have hci : ci < 13 := (List.getElem?_eq_some_iff.mp hq).1
    rw [zt_cls ci hci] at hq
    cases hq
    dsimp only
    rw [dif_pos hci, dif_pos hci]
    exact Classical.choose_spec (Classical.choose_spec (hKn ci hci))
  obtain ⟨D, hK⟩ := hDx
  have hN : ∀ r ∈ zlk_l, r.2.2.1 = 1 → va_Nw (zlc r) s := by
    intro r hr h1
    have h2 := hts _ (List.mem_of_getElem? (zt_link r hr).1)
    rw [zlc_1 h1] at h2 ⊢
    exact va_Nw.of rfl h2
  have W0 : zWo D s.heap.size b xs (fun _ => 0) (fun _ => 0) (fun _ _ => 0) ([], L, fun j => (xs j.toNat).toInt) (fun _ _ => 0) s s.heap := by
    refine ⟨[], [], hK, fun k q h => by simp at h, ⟨fun i j p q h => by simp at h, fun k q h => by simp at h⟩, Nat.le_refl _, hbl, hX, by show L < 2147483648; omega, fun j hj => by simp, rfl, fun a q h => by simp at h, fun a j h => by simp at h, hN⟩
  have Cx : zCx 299 room_1 p s m #[Value.ref b] meth c := ⟨hx, hb, hml, hown, fun w hw => hts w (List.mem_filter.mp hw).1, by decide +kernel, by decide +kernel, fun z => absurd z (by decide +kernel)⟩
  rw [lg_entry_eq]
  have hA : zSr b (fun _ => 0) 0 [vX] [Value.ref b] := ⟨rfl, trivial⟩
  have hen : zen 299 [vX] = [vX, vU, vU, vU] := by decide +kernel
  have hL0 := zen_rel (k := 299) hA (by decide +kernel)
  rw [hen] at hL0
  have hlk : lk 299 = 4 := by decide +kernel
  rw [hlk] at hL0
  refine zfollow l D s.heap.size b xs n 299 0 [vX, vU, vU, vU] [] _ _ r S' I' hex p e room_1 s m #[Value.ref b] below meth c _ _ _ _ s.heap [] 0 0 _ [] Cx (Nat.le_refl _) W0 va_S.rf (by rw [hlk]; exact hL0) trivial ?_ ?_ ?_
  · show 0 + (S'.1.length - 0) ≤ 178
    dsimp only at hlen
    omega
  · show 0 + (zsl S' - 0) ≤ 2740
    dsimp only at hsl
    omega
  · intro pc' ad' cA' F' H' locs' cells' slots' ls' rv W1 hS1 had hc hs hE
    have hc : cells' ≤ 0 + (S'.1.length - 0) := hc
    have hs : slots' ≤ 0 + (zsl S' - 0) := hs
    dsimp only at hr1 hlen hsl
    rcases hE with ⟨w, rfl, hrw, hd, -⟩ | ⟨a, hrw, -⟩ | ⟨hrw, -⟩
    · rw [hr1] at hrw
      have hw : w = 1 := Int32.toInt_inj.mp (by have := Sum.inl.inj hrw; rw [← this]; rfl)
      subst hw
      refine va_forget (fun q hq => hS1.2.2 q hq) ?_
      refine W.widen (k := 178) (n := 2740) (by omega) (by omega) ?_
      exact lw_ret hx hb hr hlocks hd
    · rw [hr1] at hrw
      cases hrw
    · rw [hr1] at hrw
      cases hrw
