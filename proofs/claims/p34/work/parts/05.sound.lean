/-! ===== THE REAL MACHINE FOLLOWS THE MINI MACHINE ===== -/
theorem zt_g {w : Cond} (h : w ∈ lw_tbl) (hg : goodWord w = true) : w ∈ zgw := List.mem_filter.mpr ⟨h, hg⟩
theorem zt_gp {w : Cond} {i : Nat} (h : lw_tbl[i]? = some w) (hg : goodWord w = true) : w ∈ zgw := zt_g (List.mem_of_getElem? h) hg
theorem zt_wsg (ci : Nat) (h : ci < 13) : ∀ w ∈ u_ws (cR ci) (cT ci) (cN ci), w ∈ zgw := by
  intro w hw
  refine zt_g (zt_ws ci h w hw) ?_
  obtain ⟨j, -, rfl⟩ := List.mem_map.mp hw
  unfold u_lay
  split <;> rfl
def wk (k : Nat) : List Cond := Cond.code (yk k) (bk k) (lk k) (rk k) :: zgw
theorem zt_codeg (k : Nat) (h : k < 13) : Cond.code (yk k) (bk k) (lk k) (rk k) ∈ zgw := zt_gp (zt_code k h) rfl
theorem wk_good (k : Nat) (h : k < 13) : GoodIn zgw (wk k) := by
  intro w hw
  have hm : w ∈ zgw := by
    rcases List.mem_cons.mp hw with rfl | h1
    · exact zt_codeg k h
    · exact h1
  exact ⟨hm, good_of_word (List.mem_filter.mp hm).2⟩
-- numbers
theorem zbm {x : Int} (h : rg x) : x.bmod (2 ^ 32) = x := by
  obtain ⟨h1, h2⟩ := h
  simp only [Int.bmod]
  split <;> omega
theorem zbl {x : Int} (h : rgl x) : x.bmod (2 ^ 64) = x := by
  obtain ⟨h1, h2⟩ := h
  simp only [Int.bmod]
  split <;> omega
theorem zi_of {x : Int} (h : rg x) : (Int32.ofInt x).toInt = x := by rw [Int32.toInt_ofInt, zbm h]
theorem zj_of {x : Int} (h : rgl x) : (Int64.ofInt x).toInt = x := by rw [Int64.toInt_ofInt, zbl h]
theorem zi_add {x y : Int32} (h : rg (x.toInt + y.toInt)) : (x + y).toInt = x.toInt + y.toInt := by rw [Int32.toInt_add, zbm h]
theorem zi_sub {x y : Int32} (h : rg (x.toInt - y.toInt)) : (x - y).toInt = x.toInt - y.toInt := by rw [Int32.toInt_sub, zbm h]
theorem zi_mul {x y : Int32} (h : rg (x.toInt * y.toInt)) : (x * y).toInt = x.toInt * y.toInt := by rw [Int32.toInt_mul, zbm h]
theorem zj_add {x y : Int64} (h : rgl (x.toInt + y.toInt)) : (x + y).toInt = x.toInt + y.toInt := by rw [Int64.toInt_add, zbl h]
theorem zi_nat {n : Nat} (h : n < 2147483648) : (Int32.ofNat n).toInt = n := Int32.toInt_ofNat_of_lt (by omega)
theorem zi_8 {n : Int} (h1 : -128 ≤ n) (h2 : n ≤ 127) : ((Int8.ofInt n).toInt32).toInt = n := by
  rw [Int8.toInt_toInt32, Int8.toInt_ofInt]
  simp only [Int.bmod, Int8.size]
  split <;> omega
theorem zi_16 {n : Int} (h1 : -32768 ≤ n) (h2 : n ≤ 32767) : ((Int16.ofInt n).toInt32).toInt = n := by
  rw [Int16.toInt_toInt32, Int16.toInt_ofInt]
  simp only [Int.bmod, Int16.size]
  split <;> omega
theorem zi_back (x : Int32) : Int32.ofInt x.toInt = x := Int32.ofInt_toInt x
theorem zi_rg (x : Int32) : rg x.toInt := by
  have h1 := Int32.le_toInt x
  have h2 := Int32.toInt_lt x
  constructor <;> omega
theorem zi_in {x : Int32} {n : Nat} (h1 : 0 ≤ x.toInt) (h2 : x.toInt < (n : Int)) : vp_in x n := by
  intro h
  rcases h with h | h
  · rw [Int32.lt_iff_toInt_lt] at h
    simp at h
    omega
  · rw [← Int32.toNat_toInt] at h
    omega
theorem zi_clamp {x : Int32} (h1 : 0 ≤ x.toInt) : ((x.toNatClampNeg : Nat) : Int) = x.toInt := by
  rw [← Int32.toNat_toInt]
  omega
-- the values
def zVr (b : Nat) (ad : Nat → Nat) (n : Nat) (v : zV) (w : Value) : Prop := match v with
  | .inl x => ∃ i : Int32, w = .int i ∧ i.toInt = x
  | .inr (.inl a) => w = .ref (ad a) ∧ a < n
  | .inr (.inr (.inl x)) => ∃ i : Int64, w = .long i ∧ i.toInt = x
  | .inr (.inr (.inr true)) => w = .ref b
  | .inr (.inr (.inr false)) => False
theorem zVr_cat {b : Nat} {ad : Nat → Nat} {n : Nat} {v : zV} {w : Value} (h : zVr b ad n v w) : w.category = zct v := by
  rcases v with x | a | x | u
  · obtain ⟨i, rfl, -⟩ := h; rfl
  · obtain ⟨rfl, -⟩ := h; rfl
  · obtain ⟨i, rfl, -⟩ := h; rfl
  · cases u
    · exact h.elim
    · have h : w = .ref b := h
      subst h; rfl
theorem zVr_c1 {b : Nat} {ad : Nat → Nat} {n : Nat} {v : zV} {w : Value} (h : zVr b ad n v w) (hl : zl v = false) : w.category = 1 := by
  rw [zVr_cat h, zct, hl]; rfl
theorem zVr_more {b : Nat} {ad ad' : Nat → Nat} {n n' : Nat} {v : zV} {w : Value} (h : zVr b ad n v w) (ha : ∀ a, a < n → ad' a = ad a) (hn : n ≤ n') : zVr b ad' n' v w := by
  rcases v with x | a | x | u
  · exact h
  · obtain ⟨rfl, h2⟩ := h; exact ⟨by rw [ha a h2], by omega⟩
  · exact h
  · cases u
    · exact h
    · exact h
def zSr (b : Nat) (ad : Nat → Nat) (n : Nat) : List zV → List Value → Prop
  | [], [] => True
  | v :: l, w :: m => zVr b ad n v w ∧ zSr b ad n l m
  | _, _ => False
theorem zSr_c {b : Nat} {ad : Nat → Nat} {n : Nat} {v : zV} {l : List zV} {st : List Value} (h : zSr b ad n (v :: l) st) : ∃ w m, st = w :: m ∧ zVr b ad n v w ∧ zSr b ad n l m := by
  cases st with
  | nil => exact h.elim
  | cons w m => exact ⟨w, m, rfl, h.1, h.2⟩
theorem zSr_n {b : Nat} {ad : Nat → Nat} {n : Nat} {st : List Value} (h : zSr b ad n [] st) : st = [] := by
  cases st with
  | nil => rfl
  | cons w m => exact h.elim
theorem zSr_more {b : Nat} {ad ad' : Nat → Nat} {n n' : Nat} (ha : ∀ a, a < n → ad' a = ad a) (hn : n ≤ n') : ∀ (l : List zV) (st : List Value), zSr b ad n l st → zSr b ad' n' l st := by
  intro l
  induction l with
  | nil => intro st h; rw [zSr_n h]; trivial
  | cons v l ih =>
    intro st h
    obtain ⟨w, m, rfl, h1, h2⟩ := zSr_c h
    exact ⟨zVr_more h1 ha hn, ih m h2⟩
theorem zSr_len {b : Nat} {ad : Nat → Nat} {n : Nat} : ∀ (l : List zV) (st : List Value), zSr b ad n l st → l.length = st.length := by
  intro l
  induction l with
  | nil => intro st h; rw [zSr_n h]; rfl
  | cons v l ih =>
    intro st h
    obtain ⟨w, m, rfl, h1, h2⟩ := zSr_c h
    simp [ih m h2]
theorem zSr_ws {b : Nat} {ad : Nat → Nat} {n : Nat} : ∀ (l : List zV) (st : List Value), zSr b ad n l st → (st.map fun v => v.category).sum = zws l := by
  intro l
  induction l with
  | nil => intro st h; rw [zSr_n h]; rfl
  | cons v l ih =>
    intro st h
    obtain ⟨w, m, rfl, h1, h2⟩ := zSr_c h
    have := ih m h2
    simp only [zws, List.map_cons, List.sum_cons] at this ⊢
    rw [this, zVr_cat h1]
theorem zSr_take {b : Nat} {ad : Nat → Nat} {n : Nat} : ∀ (j : Nat) (l : List zV) (st : List Value), zSr b ad n l st → zSr b ad n (l.take j) (st.take j) ∧ zSr b ad n (l.drop j) (st.drop j) := by
  intro j
  induction j with
  | zero => intro l st h; exact ⟨trivial, h⟩
  | succ j ih =>
    intro l st h
    cases l with
    | nil => rw [zSr_n h]; exact ⟨trivial, trivial⟩
    | cons v l =>
      obtain ⟨w, m, rfl, h1, h2⟩ := zSr_c h
      exact ⟨⟨h1, (ih l m h2).1⟩, (ih l m h2).2⟩
theorem zSr_app {b : Nat} {ad : Nat → Nat} {n : Nat} : ∀ (l : List zV) (st : List Value) (l2 : List zV) (st2 : List Value), zSr b ad n l st → zSr b ad n l2 st2 → zSr b ad n (l ++ l2) (st ++ st2) := by
  intro l
  induction l with
  | nil => intro st l2 st2 h h2; rw [zSr_n h]; exact h2
  | cons v l ih =>
    intro st l2 st2 h h2
    obtain ⟨w, m, rfl, h3, h4⟩ := zSr_c h
    exact ⟨h3, ih m l2 st2 h4 h2⟩
theorem zSr_rev {b : Nat} {ad : Nat → Nat} {n : Nat} : ∀ (l : List zV) (st : List Value), zSr b ad n l st → zSr b ad n l.reverse st.reverse := by
  intro l
  induction l with
  | nil => intro st h; rw [zSr_n h]; trivial
  | cons v l ih =>
    intro st h
    obtain ⟨w, m, rfl, h3, h4⟩ := zSr_c h
    simp only [List.reverse_cons]
    exact zSr_app _ _ _ _ (ih m h4) ⟨h3, trivial⟩
-- the locals
def zLr (b : Nat) (ad : Nat → Nat) (n nL : Nat) (hl : Bool) (ls : Array Slot) (ml : List zV) : Prop := ls.size = nL ∧ lv_wf ls ∧ ml.length = nL ∧ (hl = true ∨ ∀ v ∈ ml, zl v = false) ∧ ∀ (i : Nat) (v : zV), ml[i]? = some v → v = vU ∨ ∃ w, ls[i]? = some (.val w) ∧ zVr b ad n v w
theorem zLr_more {b : Nat} {ad ad' : Nat → Nat} {n n' nL : Nat} {hl : Bool} {ls : Array Slot} {ml : List zV} (h : zLr b ad n nL hl ls ml) (ha : ∀ a, a < n → ad' a = ad a) (hn : n ≤ n') : zLr b ad' n' nL hl ls ml := by
  obtain ⟨h1, h2, h3, h4, h5⟩ := h
  refine ⟨h1, h2, h3, h4, fun i v hi => ?_⟩
  rcases h5 i v hi with h | ⟨w, hw, hv⟩
  · exact Or.inl h
  · exact Or.inr ⟨w, hw, zVr_more hv ha hn⟩
def zlv (ls : Array Slot) : List (Nat × Value) := (List.range ls.size).filterMap (fun (j : Nat) => match (ls[j]? : Option Slot) with
  | some (.val w) => if w.category = 1 then some (j, w) else none
  | _ => none)
theorem zlv_mem {ls : Array Slot} {j : Nat} {w : Value} : (j, w) ∈ zlv ls ↔ ls[j]? = some (.val w) ∧ w.category = 1 := by
  constructor
  · intro h
    obtain ⟨i, -, hi⟩ := List.mem_filterMap.mp h
    cases hs : ls[i]? with
    | none => rw [hs] at hi; cases hi
    | some x =>
      rw [hs] at hi
      cases x with
      | val w' =>
        dsimp only at hi
        by_cases hc : w'.category = 1
        · rw [if_pos hc] at hi; cases hi; exact ⟨hs, hc⟩
        · rw [if_neg hc] at hi; cases hi
      | unset => cases hi
      | second => cases hi
  · rintro ⟨h, hc⟩
    refine List.mem_filterMap.mpr ⟨j, List.mem_range.mpr (lv_lt h), ?_⟩
    rw [h]
    dsimp only
    rw [if_pos hc]
theorem zlv_has {ls : Array Slot} {nL : Nat} (h : ls.size = nL) (hw : lv_wf ls) : lv_has ls nL (zlv ls) := ⟨h, hw, fun q hq => (zlv_mem (j := q.1) (w := q.2).mp hq).1⟩
theorem zLr_store {b : Nat} {ad : Nat → Nat} {n nL : Nat} {hl : Bool} {ls ls' : Array Slot} {ml : List zV} {i : Nat} {v : zV} {w : Value} (h : zLr b ad n nL hl ls ml) (hf : hl = false) (hz : zl v = false) (hv : zVr b ad n v w)
    (h' : lv_has ls' nL ((i, w) :: (zlv ls).filter (fun q => !(q.1 == i) && !(q.1 + 1 == i && q.2.category == 2)))) : zLr b ad n nL hl ls' (ml.set i v) := by
  obtain ⟨h1, h2, h3, h4, h5⟩ := h
  subst hf
  have h4 : ∀ v ∈ ml, zl v = false := by
    rcases h4 with h | h
    · cases h
    · exact h
  refine ⟨h'.1, h'.2.1, by simpa using h3, Or.inr (fun u hu => ?_), fun j u hj => ?_⟩
  · rcases List.mem_or_eq_of_mem_set hu with h | rfl
    · exact h4 u h
    · exact hz
  · by_cases e : j = i
    · subst e
      have hlt : j < ml.length := by
        have := (List.getElem?_eq_some_iff.mp hj).1
        simpa using this
      rw [List.getElem?_set_self hlt] at hj
      cases hj
      exact Or.inr ⟨w, h'.2.2 (j, w) List.mem_cons_self, hv⟩
    · rw [List.getElem?_set_ne (fun q => e q.symm)] at hj
      rcases h5 j u hj with h | ⟨w', hw', hv'⟩
      · exact Or.inl h
      · refine Or.inr ⟨w', ?_, hv'⟩
        have hc : w'.category = 1 := zVr_c1 hv' (h4 u (List.mem_of_getElem? hj))
        refine h'.2.2 (j, w') (List.mem_cons_of_mem _ (List.mem_filter.mpr ⟨zlv_mem.mpr ⟨hw', hc⟩, ?_⟩))
        simp [e, hc]
