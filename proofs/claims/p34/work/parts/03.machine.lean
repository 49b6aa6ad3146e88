/-! ===== THE MINI MACHINE: a pure machine over Ints that the real one is shown to follow (part 05); a big-step run 'ex' with fuel, and its weakest precondition 'Wp' ===== -/
abbrev zV : Type := Int ⊕ (Nat ⊕ (Int ⊕ Bool))
def vI (x : Int) : zV := .inl x
def vR (a : Nat) : zV := .inr (.inl a)
def vL (x : Int) : zV := .inr (.inr (.inl x))
def vX : zV := .inr (.inr (.inr true))
def vU : zV := .inr (.inr (.inr false))
/-- the cells' kinds (0 ints, 1 booleans, 2 + c an object of class c) with what never changes of them (a row's length; final fields; references, 1 above the cell's number); the script's length and its ints -/
abbrev zS : Type := List (Nat × List Nat) × Nat × (Int → Int)
/-- what changes: the ints of rows and fields -/
abbrev zM : Type := Nat → Int → Int
abbrev zA : Type := Option ((Nat × List zV × List zV × zS × zM) ⊕ ((Nat × List zV × List zV) ⊕ zV))
def yk (k : Nat) : MethodName := zy_l.getD k ⟨"", "", ""⟩
def bk (k : Nat) : ByteArray := zb_l.getD k ⟨#[]⟩
def zn (k : Nat) : Nat × Nat × Nat × Nat × Nat × Nat × Bool := zn_l.getD k (0, 0, 0, 0, 0, 0, false)
def lk (k : Nat) : Nat := (zn k).1
def ok (k : Nat) : Nat := (zn k).2.1
def fk (k : Nat) : Nat := (zn k).2.2.1
def ck (k : Nat) : Nat := (zn k).2.2.2.1
def nk (k : Nat) : Nat := (zn k).2.2.2.2.1
def ik (k : Nat) : Nat := (zn k).2.2.2.2.2.1
def hk (k : Nat) : Bool := (zn k).2.2.2.2.2.2
def rk (k : Nat) : Option FieldType := zr_l.getD k none
def cn (c : Nat) : String := zcn_l.getD c ""
def fd (c cp : Nat) : Option (Nat × Nat) := (zfd_l.find? (fun r => r.1 == c && r.2.1 == cp)).map (fun r => (r.2.2.1, r.2.2.2.1))
def ft (ci j : Nat) : Nat := (zft_l.getD ci []).getD j 9
def nf (ci : Nat) : Nat := (zft_l.getD ci []).length
def nw (c cp : Nat) : Option Nat := (znw_l.find? (fun r => r.1 == c && r.2.1 == cp)).map (fun r => r.2.2.1)
def lkk (c cp : Nat) : Option (Nat × Nat) := (zlk_l.find? (fun r => r.1 == c && r.2.1 == cp)).map (fun r => (r.2.2.1, r.2.2.2.1))
def ki (c cp : Nat) : Option Int := (zci_l.find? (fun r => r.1 == c && r.2.1 == cp)).map (fun r => r.2.2.2)
def kj (c cp : Nat) : Option Int := (zcj_l.find? (fun r => r.1 == c && r.2.1 == cp)).map (fun r => r.2.2.2)
def kd (S : zS) (a : Nat) : Nat := match S.1[a]? with
  | some q => q.1
  | none => 999
def sd (S : zS) (a j : Nat) : Nat := match S.1[a]? with
  | some q => q.2.getD j 0
  | none => 0
def up (I : zM) (a : Nat) (j x : Int) : zM := fun a' j' => if a' = a ∧ j' = j then x else I a' j'
def cz (I : zM) (a : Nat) : zM := fun a' j' => if a' = a then 0 else I a' j'
def ss (S : zS) (a j v : Nat) : zS := (S.1.modify a (fun q => (q.1, q.2.set j v)), S.2)
def sp (S : zS) (q : Nat × List Nat) : zS := (S.1 ++ [q], S.2)
def nx (pc : Nat) (ls st : List zV) (S : zS) (I : zM) : zA := some (.inl (pc, ls, st, S, I))
def zcl (k : Nat) (ls rest : List zV) : zA := some (.inr (.inl (k, ls, rest)))
def zrt (v : zV) : zA := some (.inr (.inr v))
abbrev rg (x : Int) : Prop := -2147483648 ≤ x ∧ x ≤ 2147483647
abbrev rgl (x : Int) : Prop := -9223372036854775808 ≤ x ∧ x ≤ 9223372036854775807
def zc (c : Jvm.ClassFile.Cond) (x y : Int) : Bool := match c with
  | .eq => decide (x = y)
  | .ne => decide (x ≠ y)
  | .lt => decide (x < y)
  | .ge => decide (y ≤ x)
  | .gt => decide (y < x)
  | .le => decide (x ≤ y)
def zand (x y : Int) : Int := (Int32.ofInt x &&& Int32.ofInt y).toInt
def zl (v : zV) : Bool := match v with
  | .inr (.inr (.inl _)) => true
  | _ => false
def zct (v : zV) : Nat := if zl v = true then 2 else 1
def zws (l : List zV) : Nat := (l.map zct).sum
def zla (args : List zV) : List zV := args.flatMap (fun v => if zl v = true then [v, vU] else [v])
def zen (k : Nat) (args : List zV) : List zV := zla args ++ List.replicate (lk k - (zla args).length) vU
abbrev zro (k k' : Nat) : Prop := fk k' + 1 ≤ fk k ∧ 8 + (lk k' + 11) + ck k' ≤ ck k
abbrev zok (k' : Nat) (args : List zV) : Prop := (zla args).length ≤ lk k' ∧ (hk k' = true ∨ args.all (fun v => !(zl v)) = true)
def zpu (r : zV) (rest : List zV) : List zV := match r with
  | .inr (.inr (.inr false)) => rest
  | v => v :: rest
/-- a call with a receiver -/
def zcv (k k' : Nat) (st : List zV) (S : zS) : zA := match st.drop (nk k') with
  | .inr (.inl a) :: rest => if (st.take (nk k')).length = nk k' ∧ kd S a = ok k' + 2 ∧ zro k k' ∧ zws rest ≤ 8 ∧ zok k' (vR a :: (st.take (nk k')).reverse) then zcl k' (zen k' (vR a :: (st.take (nk k')).reverse)) rest else none
  | _ => none
def zcs (k k' : Nat) (st : List zV) : zA := if (st.take (nk k')).length = nk k' ∧ zro k k' ∧ zws (st.drop (nk k')) ≤ 8 ∧ zok k' (st.take (nk k')).reverse then zcl k' (zen k' (st.take (nk k')).reverse) (st.drop (nk k')) else none
def zmx (k pc : Nat) (ls st : List zV) (S : zS) (I : zM) (q : Nat) : zA := match st with
  | .inl y :: .inl x :: r => if 1 ≤ fk k ∧ zws r + 13 ≤ ck k then nx (pc + 3) ls (vI (if q = 3 then (if x < y then y else x) else (if y < x then y else x)) :: r) S I else none
  | _ => none
def zob (k pc : Nat) (ls st : List zV) (S : zS) (I : zM) : zA := match st with
  | .inr (.inl _) :: r => if 1 ≤ fk k ∧ zws r + 12 ≤ ck k then nx (pc + 3) ls r S I else none
  | _ => none
def zgf (k pc : Nat) (ls st : List zV) (S : zS) (I : zM) (ci j : Nat) : zA := match st with
  | .inr (.inl a) :: r => if kd S a = ci + 2 then
      (if ft ci j ≤ 1 then nx (pc + 3) ls (vI (I a j) :: r) S I
       else if ft ci j ≤ 3 then nx (pc + 3) ls (vI (sd S a j) :: r) S I
       else if ft ci j ≤ 5 ∧ 0 < sd S a j then nx (pc + 3) ls (vR (sd S a j - 1) :: r) S I else none) else none
  | _ => none
def zpf (k pc : Nat) (ls st : List zV) (S : zS) (I : zM) (ci j : Nat) : zA := match st with
  | .inl x :: .inr (.inl a) :: r => if kd S a = ci + 2 then
      (if ft ci j = 0 then nx (pc + 3) ls r S (up I a j x)
       else if ft ci j = 1 then (if x = 0 ∨ x = 1 then nx (pc + 3) ls r S (up I a j x) else none)
       else if ft ci j = 2 ∧ 0 ≤ x ∧ ik k = 2 ∧ ok k = ci then nx (pc + 3) ls r (ss S a j x.toNat) I
       else if ft ci j = 3 ∧ (x = 0 ∨ x = 1) ∧ ik k = 2 ∧ ok k = ci then nx (pc + 3) ls r (ss S a j x.toNat) I else none) else none
  | .inr (.inl b) :: .inr (.inl a) :: r => if kd S a = ci + 2 then
      (if ft ci j = 4 ∧ ik k = 2 ∧ ok k = ci then nx (pc + 3) ls r (ss S a j (b + 1)) I
       else if ft ci j = 5 then nx (pc + 3) ls r (ss S a j (b + 1)) I else none) else none
  | _ => none
def zal (pc : Nat) (ls st : List zV) (S : zS) (I : zM) (q : Nat) : zA := match st with
  | .inl j :: .inr (.inl a) :: r => if kd S a = q ∧ 0 ≤ j ∧ j < (sd S a 0 : Int) then nx (pc + 1) ls (vI (I a j) :: r) S I else none
  | .inl j :: .inr (.inr (.inr true)) :: r => if q = 0 ∧ 0 ≤ j ∧ j < (S.2.1 : Int) then nx (pc + 1) ls (vI (S.2.2 j) :: r) S I else none
  | _ => none
def zas (pc : Nat) (ls st : List zV) (S : zS) (I : zM) (q : Nat) : zA := match st with
  | .inl x :: .inl j :: .inr (.inl a) :: r => if kd S a = q ∧ 0 ≤ j ∧ j < (sd S a 0 : Int) ∧ (q = 0 ∨ x = 0 ∨ x = 1) then nx (pc + 1) ls r S (up I a j x) else none
  | _ => none
def sti (k pc : Nat) (ls st : List zV) (S : zS) (I : zM) (len : Nat) : Instr → zA
  | .iconst n => if len = 1 ∧ rg n then nx (pc + 1) ls (vI n :: st) S I else none
  | .bipush n => if len = 2 ∧ -128 ≤ n ∧ n ≤ 127 then nx (pc + 2) ls (vI n :: st) S I else none
  | .sipush n => if len = 3 ∧ -32768 ≤ n ∧ n ≤ 32767 then nx (pc + 3) ls (vI n :: st) S I else none
  | .lconst n => if len = 1 then nx (pc + 1) ls (vL (n.val : Int) :: st) S I else none
  | .ldc i => if len = 2 then (match ki (ok k) i with
      | some v => nx (pc + 2) ls (vI v :: st) S I
      | none => none) else none
  | .ldc_w i => if len = 3 then (match ki (ok k) i with
      | some v => nx (pc + 3) ls (vI v :: st) S I
      | none => none) else none
  | .ldc2_w i => if len = 3 then (match kj (ok k) i with
      | some v => nx (pc + 3) ls (vL v :: st) S I
      | none => none) else none
  | .iload_n n => if len = 1 then (match ls[n.val]? with
      | some (.inl x) => nx (pc + 1) ls (vI x :: st) S I
      | _ => none) else none
  | .iload n => if len = 2 then (match ls[n]? with
      | some (.inl x) => nx (pc + 2) ls (vI x :: st) S I
      | _ => none) else none
  | .lload_n n => if len = 1 then (match ls[n.val]? with
      | some (.inr (.inr (.inl x))) => nx (pc + 1) ls (vL x :: st) S I
      | _ => none) else none
  | .lload n => if len = 2 then (match ls[n]? with
      | some (.inr (.inr (.inl x))) => nx (pc + 2) ls (vL x :: st) S I
      | _ => none) else none
  | .aload_n n => if len = 1 then (match ls[n.val]? with
      | some (.inr (.inl x)) => nx (pc + 1) ls (vR x :: st) S I
      | some (.inr (.inr (.inr true))) => nx (pc + 1) ls (vX :: st) S I
      | _ => none) else none
  | .aload n => if len = 2 then (match ls[n]? with
      | some (.inr (.inl x)) => nx (pc + 2) ls (vR x :: st) S I
      | _ => none) else none
  | .istore_n n => if len = 1 ∧ n.val < ls.length ∧ hk k = false then (match st with
      | .inl x :: r => nx (pc + 1) (ls.set n.val (vI x)) r S I
      | _ => none) else none
  | .istore n => if len = 2 ∧ n < ls.length ∧ hk k = false then (match st with
      | .inl x :: r => nx (pc + 2) (ls.set n (vI x)) r S I
      | _ => none) else none
  | .astore_n n => if len = 1 ∧ n.val < ls.length ∧ hk k = false then (match st with
      | .inr (.inl x) :: r => nx (pc + 1) (ls.set n.val (vR x)) r S I
      | _ => none) else none
  | .astore n => if len = 2 ∧ n < ls.length ∧ hk k = false then (match st with
      | .inr (.inl x) :: r => nx (pc + 2) (ls.set n (vR x)) r S I
      | _ => none) else none
  | .iinc i n => if len = 3 ∧ hk k = false ∧ rg n then (match ls[i]? with
      | some (.inl x) => if rg (x + n) then nx (pc + 3) (ls.set i (vI (x + n))) st S I else none
      | _ => none) else none
  | .iadd => match st with
      | .inl y :: .inl x :: r => if len = 1 ∧ rg (x + y) then nx (pc + 1) ls (vI (x + y) :: r) S I else none
      | _ => none
  | .isub => match st with
      | .inl y :: .inl x :: r => if len = 1 ∧ rg (x - y) then nx (pc + 1) ls (vI (x - y) :: r) S I else none
      | _ => none
  | .imul => match st with
      | .inl y :: .inl x :: r => if len = 1 ∧ rg (x * y) then nx (pc + 1) ls (vI (x * y) :: r) S I else none
      | _ => none
  | .iand => match st with
      | .inl y :: .inl x :: r => if len = 1 then nx (pc + 1) ls (vI (zand x y) :: r) S I else none
      | _ => none
  | .i2l => match st with
      | .inl x :: r => if len = 1 then nx (pc + 1) ls (vL x :: r) S I else none
      | _ => none
  | .ladd => match st with
      | .inr (.inr (.inl y)) :: .inr (.inr (.inl x)) :: r => if len = 1 ∧ rgl (x + y) then nx (pc + 1) ls (vL (x + y) :: r) S I else none
      | _ => none
  | .lcmp => match st with
      | .inr (.inr (.inl y)) :: .inr (.inr (.inl x)) :: r => if len = 1 then nx (pc + 1) ls (vI (if y < x then 1 else if x = y then 0 else -1) :: r) S I else none
      | _ => none
  | .dup => match st with
      | v :: r => if len = 1 ∧ zl v = false then nx (pc + 1) ls (v :: v :: r) S I else none
      | _ => none
  | .dup2 => match st with
      | v :: w :: r => if len = 1 ∧ zl v = false ∧ zl w = false then nx (pc + 1) ls (v :: w :: v :: w :: r) S I else none
      | _ => none
  | .pop => match st with
      | v :: r => if len = 1 ∧ zl v = false then nx (pc + 1) ls r S I else none
      | _ => none
  | .ifCond c off => match st with
      | .inl x :: r => if len = 3 ∧ 0 ≤ (pc : Int) + off then nx (if zc c x 0 = true then ((pc : Int) + off).toNat else pc + 3) ls r S I else none
      | _ => none
  | .if_icmp c off => match st with
      | .inl y :: .inl x :: r => if len = 3 ∧ 0 ≤ (pc : Int) + off then nx (if zc c x y = true then ((pc : Int) + off).toNat else pc + 3) ls r S I else none
      | _ => none
  | .goto off => if len = 3 ∧ 0 ≤ (pc : Int) + off then nx ((pc : Int) + off).toNat ls st S I else none
  | .tableswitch df lo hi offs => match st with
      | .inl x :: r => if x < lo ∨ hi < x then (if 0 ≤ (pc : Int) + df then nx ((pc : Int) + df).toNat ls r S I else none)
          else (match offs[(x - lo).toNat]? with
            | some o => if 0 ≤ (pc : Int) + o then nx ((pc : Int) + o).toNat ls r S I else none
            | none => none)
      | _ => none
  | .getfield i => if len = 3 then (match fd (ok k) i with
      | some q => zgf k pc ls st S I q.1 q.2
      | none => none) else none
  | .putfield i => if len = 3 then (match fd (ok k) i with
      | some q => zpf k pc ls st S I q.1 q.2
      | none => none) else none
  | .iaload => if len = 1 then zal pc ls st S I 0 else none
  | .baload => if len = 1 then zal pc ls st S I 1 else none
  | .iastore => if len = 1 then zas pc ls st S I 0 else none
  | .bastore => if len = 1 then zas pc ls st S I 1 else none
  | .arraylength => match st with
      | .inr (.inl a) :: r => if len = 1 ∧ kd S a ≤ 1 then nx (pc + 1) ls (vI (sd S a 0) :: r) S I else none
      | .inr (.inr (.inr true)) :: r => if len = 1 then nx (pc + 1) ls (vI (S.2.1 : Int) :: r) S I else none
      | _ => none
  | .new i => if len = 3 then (match nw (ok k) i with
      | some ci => nx (pc + 3) ls (vR S.1.length :: st) (sp S (ci + 2, List.replicate (nf ci) 0)) (cz I S.1.length)
      | none => none) else none
  | .newarray t => match st with
      | .inl n :: r => if len = 2 ∧ 0 ≤ n ∧ n ≤ 1000000 then
          (if t = .int then nx (pc + 2) ls (vR S.1.length :: r) (sp S (0, [n.toNat])) (cz I S.1.length)
           else if t = .boolean then nx (pc + 2) ls (vR S.1.length :: r) (sp S (1, [n.toNat])) (cz I S.1.length) else none) else none
      | _ => none
  | .invokevirtual i => if len = 3 then (match lkk (ok k) i with
      | some q => if q.1 ≤ 1 ∧ ik q.2 = 1 then zcv k q.2 st S else none
      | none => none) else none
  | .invokespecial i => if len = 3 then (match lkk (ok k) i with
      | some q => if q.1 ≤ 1 ∧ ik q.2 = 2 then zcv k q.2 st S else if q.1 = 2 then zob k pc ls st S I else none
      | none => none) else none
  | .invokestatic i => if len = 3 then (match lkk (ok k) i with
      | some q => if q.1 ≤ 1 ∧ ik q.2 = 0 then zcs k q.2 st else if q.1 = 3 ∨ q.1 = 4 then zmx k pc ls st S I q.1 else none
      | none => none) else none
  | .ireturn => match st with
      | [.inl x] => if len = 1 ∧ (rk k = some .int ∨ (rk k = some .boolean ∧ (x = 0 ∨ x = 1))) then zrt (vI x) else none
      | _ => none
  | .areturn => match st with
      | [.inr (.inl a)] => if len = 1 then (match rk k with
          | some (.object _) => zrt (vR a)
          | _ => none) else none
      | _ => none
  | .return_ => match st with
      | [] => if len = 1 ∧ rk k = none then zrt vU else none
      | _ => none
  | _ => none
def stp (k pc : Nat) (ls st : List zV) (S : zS) (I : zM) : zA := match decode (bk k) pc with
  | .ok q => sti k pc ls st S I q.2 q.1
  | .error _ => none
def ex : Nat → Nat → Nat → List zV → List zV → zS → zM → Option (zV × zS × zM)
  | 0, _, _, _, _, _, _ => none
  | n + 1, k, pc, ls, st, S, I => match stp k pc ls st S I with
      | some (.inl q) => ex n k q.1 q.2.1 q.2.2.1 q.2.2.2.1 q.2.2.2.2
      | some (.inr (.inl q)) => (match ex n q.1 0 q.2.1 [] S I with
          | some u => ex n k (pc + 3) ls (zpu u.1 q.2.2) u.2.1 u.2.2
          | none => none)
      | some (.inr (.inr r)) => some (r, S, I)
      | none => none
def Wp (k pc : Nat) (ls st : List zV) (S : zS) (I : zM) (Q : zV → zS → zM → Prop) : Prop := ∃ (n : Nat) (u : zV × zS × zM), ex n k pc ls st S I = some u ∧ Q u.1 u.2.1 u.2.2
theorem ex_more : ∀ (n : Nat) (k pc : Nat) (ls st : List zV) (S : zS) (I : zM) (u : zV × zS × zM), ex n k pc ls st S I = some u → ∀ m, n ≤ m → ex m k pc ls st S I = some u := by
  intro n
  induction n with
  | zero => intro k pc ls st S I u h; simp [ex] at h
  | succ n ih =>
    intro k pc ls st S I u h m hm
    obtain ⟨m, rfl⟩ : ∃ m', m = m' + 1 := ⟨m - 1, by omega⟩
    have hm : n ≤ m := by omega
    rw [ex] at h ⊢
    cases hs : stp k pc ls st S I with
    | none => rw [hs] at h; exact h
    | some a =>
      rw [hs] at h
      rcases a with q | q | r
      · exact ih _ _ _ _ _ _ _ h m hm
      · dsimp only at h ⊢
        cases hc : ex n q.1 0 q.2.1 [] S I with
        | none => rw [hc] at h; cases h
        | some v =>
          rw [hc] at h
          rw [ih _ _ _ _ _ _ _ hc m hm]
          exact ih _ _ _ _ _ _ _ h m hm
      · exact h
theorem Wp_next {k pc pc' : Nat} {ls st ls' st' : List zV} {S S' : zS} {I I' : zM} {Q : zV → zS → zM → Prop} (h : stp k pc ls st S I = some (.inl (pc', ls', st', S', I'))) : Wp k pc ls st S I Q ↔ Wp k pc' ls' st' S' I' Q := by
  constructor
  · rintro ⟨n, u, h1, h2⟩
    cases n with
    | zero => simp [ex] at h1
    | succ n => rw [ex, h] at h1; exact ⟨n, u, h1, h2⟩
  · rintro ⟨n, u, h1, h2⟩
    exact ⟨n + 1, u, by rw [ex, h]; exact h1, h2⟩
theorem Wp_stuck {k pc : Nat} {ls st : List zV} {S : zS} {I : zM} {Q : zV → zS → zM → Prop} (h : stp k pc ls st S I = none) : Wp k pc ls st S I Q ↔ False := by
  constructor
  · rintro ⟨n, u, h1, h2⟩
    cases n with
    | zero => simp [ex] at h1
    | succ n => rw [ex, h] at h1; cases h1
  · exact False.elim
theorem Wp_call {k pc k' : Nat} {ls st ls0 rest : List zV} {S : zS} {I : zM} {Q : zV → zS → zM → Prop} (h : stp k pc ls st S I = some (.inr (.inl (k', ls0, rest)))) : Wp k pc ls st S I Q ↔ Wp k' 0 ls0 [] S I (fun r S1 I1 => Wp k (pc + 3) ls (zpu r rest) S1 I1 Q) := by
  constructor
  · rintro ⟨n, u, h1, h2⟩
    cases n with
    | zero => simp [ex] at h1
    | succ n =>
      rw [ex, h] at h1
      dsimp only at h1
      cases hc : ex n k' 0 ls0 [] S I with
      | none => rw [hc] at h1; cases h1
      | some v => rw [hc] at h1; exact ⟨n, v, hc, n, u, h1, h2⟩
  · rintro ⟨n, v, h1, m, u, h2, h3⟩
    refine ⟨max n m + 1, u, ?_, h3⟩
    rw [ex, h]
    dsimp only
    rw [ex_more _ _ _ _ _ _ _ _ h1 (max n m) (by omega)]
    exact ex_more _ _ _ _ _ _ _ _ h2 (max n m) (by omega)
theorem Wp_ret {k pc : Nat} {ls st : List zV} {S : zS} {I : zM} {Q : zV → zS → zM → Prop} {r : zV} (h : stp k pc ls st S I = some (.inr (.inr r))) : Wp k pc ls st S I Q ↔ Q r S I := by
  constructor
  · rintro ⟨n, u, h1, h2⟩
    cases n with
    | zero => simp [ex] at h1
    | succ n => rw [ex, h] at h1; cases h1; exact h2
  · intro h2
    exact ⟨1, (r, S, I), by rw [ex, h], h2⟩
theorem Wp_mono {k pc : Nat} {ls st : List zV} {S : zS} {I : zM} {Q Q' : zV → zS → zM → Prop} (h : Wp k pc ls st S I Q) (hq : ∀ r S' I', Q r S' I' → Q' r S' I') : Wp k pc ls st S I Q' := by
  obtain ⟨n, u, h1, h2⟩ := h
  exact ⟨n, u, h1, hq _ _ _ h2⟩
/-- one run, one end: what is reached is reached whatever is asked of it -/
theorem Wp_det {k pc : Nat} {ls st : List zV} {S : zS} {I : zM} {r : zV} {S' : zS} {I' : zM} (h : Wp k pc ls st S I (fun r1 S1 I1 => r1 = r ∧ S1 = S' ∧ I1 = I')) (Q : zV → zS → zM → Prop) : Wp k pc ls st S I Q ↔ Q r S' I' := by
  obtain ⟨n, ⟨r1, S1, I1⟩, h1, rfl, rfl, rfl⟩ := h
  constructor
  · rintro ⟨m, u, h2, h3⟩
    have e1 := ex_more _ _ _ _ _ _ _ _ h1 (max n m) (by omega)
    have e2 := ex_more _ _ _ _ _ _ _ _ h2 (max n m) (by omega)
    rw [e1] at e2
    cases e2
    exact h3
  · intro h2
    exact ⟨n, _, h1, h2⟩
