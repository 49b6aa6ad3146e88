/-! ===== the weakest precondition, instruction by instruction ===== -/
section WR
variable {k pc : Nat} {ls st : List zV} {S : zS} {I : zM} {Q : zV → zS → zM → Prop}
theorem zpu_I (x : Int) (l : List zV) : zpu (vI x) l = vI x :: l := rfl
theorem zpu_R (a : Nat) (l : List zV) : zpu (vR a) l = vR a :: l := rfl
theorem zpu_U (l : List zV) : zpu vU l = l := rfl
theorem Wp_iconst {n : Int} (h : decode (bk k) pc = .ok (.iconst n, 1)) (hn : rg n) : Wp k pc ls st S I Q ↔ Wp k (pc + 1) ls (vI n :: st) S I Q :=
  Wp_next (by simp only [stp, h, sti]; rw [if_pos ⟨trivial, hn⟩]; rfl)
theorem Wp_bipush {n : Int} (h : decode (bk k) pc = .ok (.bipush n, 2)) (hn : -128 ≤ n ∧ n ≤ 127) : Wp k pc ls st S I Q ↔ Wp k (pc + 2) ls (vI n :: st) S I Q :=
  Wp_next (by simp only [stp, h, sti]; rw [if_pos ⟨trivial, hn⟩]; rfl)
theorem Wp_sipush {n : Int} (h : decode (bk k) pc = .ok (.sipush n, 3)) (hn : -32768 ≤ n ∧ n ≤ 32767) : Wp k pc ls st S I Q ↔ Wp k (pc + 3) ls (vI n :: st) S I Q :=
  Wp_next (by simp only [stp, h, sti]; rw [if_pos ⟨trivial, hn⟩]; rfl)
theorem Wp_lconst {n : Fin 2} {v : Int} (h : decode (bk k) pc = .ok (.lconst n, 1)) (hv : (n.val : Int) = v) : Wp k pc ls st S I Q ↔ Wp k (pc + 1) ls (vL v :: st) S I Q :=
  Wp_next (by subst hv; simp only [stp, h, sti]; rw [if_pos trivial]; rfl)
theorem Wp_ldc {n : Nat} {v : Int} (h : decode (bk k) pc = .ok (.ldc n, 2)) (hv : ki (ok k) n = some v) : Wp k pc ls st S I Q ↔ Wp k (pc + 2) ls (vI v :: st) S I Q :=
  Wp_next (by simp only [stp, h, sti, hv]; rw [if_pos trivial]; rfl)
theorem Wp_ldc_w {n : Nat} {v : Int} (h : decode (bk k) pc = .ok (.ldc_w n, 3)) (hv : ki (ok k) n = some v) : Wp k pc ls st S I Q ↔ Wp k (pc + 3) ls (vI v :: st) S I Q :=
  Wp_next (by simp only [stp, h, sti, hv]; rw [if_pos trivial]; rfl)
theorem Wp_ldc2 {n : Nat} {v : Int} (h : decode (bk k) pc = .ok (.ldc2_w n, 3)) (hv : kj (ok k) n = some v) : Wp k pc ls st S I Q ↔ Wp k (pc + 3) ls (vL v :: st) S I Q :=
  Wp_next (by simp only [stp, h, sti, hv]; rw [if_pos trivial]; rfl)
theorem Wp_iload_n {n : Fin 4} {x : Int} (h : decode (bk k) pc = .ok (.iload_n n, 1)) (hl : ls[n.val]? = some (vI x)) : Wp k pc ls st S I Q ↔ Wp k (pc + 1) ls (vI x :: st) S I Q :=
  Wp_next (by simp only [stp, h, sti, hl]; rw [if_pos trivial]; rfl)
theorem Wp_iload {n : Nat} {x : Int} (h : decode (bk k) pc = .ok (.iload n, 2)) (hl : ls[n]? = some (vI x)) : Wp k pc ls st S I Q ↔ Wp k (pc + 2) ls (vI x :: st) S I Q :=
  Wp_next (by simp only [stp, h, sti, hl]; rw [if_pos trivial]; rfl)
theorem Wp_lload_n {n : Fin 4} {x : Int} (h : decode (bk k) pc = .ok (.lload_n n, 1)) (hl : ls[n.val]? = some (vL x)) : Wp k pc ls st S I Q ↔ Wp k (pc + 1) ls (vL x :: st) S I Q :=
  Wp_next (by simp only [stp, h, sti, hl]; rw [if_pos trivial]; rfl)
theorem Wp_lload {n : Nat} {x : Int} (h : decode (bk k) pc = .ok (.lload n, 2)) (hl : ls[n]? = some (vL x)) : Wp k pc ls st S I Q ↔ Wp k (pc + 2) ls (vL x :: st) S I Q :=
  Wp_next (by simp only [stp, h, sti, hl]; rw [if_pos trivial]; rfl)
theorem Wp_aload_n {n : Fin 4} {x : Nat} (h : decode (bk k) pc = .ok (.aload_n n, 1)) (hl : ls[n.val]? = some (vR x)) : Wp k pc ls st S I Q ↔ Wp k (pc + 1) ls (vR x :: st) S I Q :=
  Wp_next (by simp only [stp, h, sti, hl]; rw [if_pos trivial]; rfl)
theorem Wp_xload_n {n : Fin 4} (h : decode (bk k) pc = .ok (.aload_n n, 1)) (hl : ls[n.val]? = some vX) : Wp k pc ls st S I Q ↔ Wp k (pc + 1) ls (vX :: st) S I Q :=
  Wp_next (by simp only [stp, h, sti, hl]; rw [if_pos trivial]; rfl)
theorem Wp_aload {n : Nat} {x : Nat} (h : decode (bk k) pc = .ok (.aload n, 2)) (hl : ls[n]? = some (vR x)) : Wp k pc ls st S I Q ↔ Wp k (pc + 2) ls (vR x :: st) S I Q :=
  Wp_next (by simp only [stp, h, sti, hl]; rw [if_pos trivial]; rfl)
theorem Wp_istore_n {n : Fin 4} {x : Int} {ls' : List zV} (h : decode (bk k) pc = .ok (.istore_n n, 1)) (hn : n.val < ls.length) (hh : hk k = false) (hl : ls.set n.val (vI x) = ls') : Wp k pc ls (vI x :: st) S I Q ↔ Wp k (pc + 1) ls' st S I Q :=
  Wp_next (by subst hl; simp only [stp, h, sti]; rw [if_pos ⟨trivial, hn, hh⟩]; rfl)
theorem Wp_istore {n : Nat} {x : Int} {ls' : List zV} (h : decode (bk k) pc = .ok (.istore n, 2)) (hn : n < ls.length) (hh : hk k = false) (hl : ls.set n (vI x) = ls') : Wp k pc ls (vI x :: st) S I Q ↔ Wp k (pc + 2) ls' st S I Q :=
  Wp_next (by subst hl; simp only [stp, h, sti]; rw [if_pos ⟨trivial, hn, hh⟩]; rfl)
theorem Wp_astore_n {n : Fin 4} {x : Nat} {ls' : List zV} (h : decode (bk k) pc = .ok (.astore_n n, 1)) (hn : n.val < ls.length) (hh : hk k = false) (hl : ls.set n.val (vR x) = ls') : Wp k pc ls (vR x :: st) S I Q ↔ Wp k (pc + 1) ls' st S I Q :=
  Wp_next (by subst hl; simp only [stp, h, sti]; rw [if_pos ⟨trivial, hn, hh⟩]; rfl)
theorem Wp_astore {n : Nat} {x : Nat} {ls' : List zV} (h : decode (bk k) pc = .ok (.astore n, 2)) (hn : n < ls.length) (hh : hk k = false) (hl : ls.set n (vR x) = ls') : Wp k pc ls (vR x :: st) S I Q ↔ Wp k (pc + 2) ls' st S I Q :=
  Wp_next (by subst hl; simp only [stp, h, sti]; rw [if_pos ⟨trivial, hn, hh⟩]; rfl)
/-- a step that goes only under a condition -/
theorem Wp_if {c : Prop} {ls' st' : List zV} {pc' : Nat} {S' : zS} {I' : zM} (h1 : c → stp k pc ls st S I = some (.inl (pc', ls', st', S', I'))) (h2 : ¬ c → stp k pc ls st S I = none) : Wp k pc ls st S I Q ↔ c ∧ Wp k pc' ls' st' S' I' Q := by
  by_cases hc : c
  · rw [Wp_next (h1 hc)]
    exact ⟨fun h => ⟨hc, h⟩, fun h => h.2⟩
  · rw [Wp_stuck (h2 hc)]
    exact ⟨False.elim, fun h => hc h.1⟩
theorem Wp_iinc {i : Nat} {n x : Int} {ls' : List zV} (h : decode (bk k) pc = .ok (.iinc i n, 3)) (hh : hk k = false) (hn : rg n) (hg : ls[i]? = some (vI x)) (hl : ls.set i (vI (x + n)) = ls') : Wp k pc ls st S I Q ↔ (-2147483648 ≤ x + n ∧ x + n ≤ 2147483647) ∧ Wp k (pc + 3) ls' st S I Q := by
  subst hl
  refine Wp_if (fun hc => ?_) (fun hc => ?_)
  · simp only [stp, h, sti, hg]; rw [if_pos ⟨trivial, hh, hn⟩]; simp only [vI]; rw [if_pos hc]; rfl
  · simp only [stp, h, sti, hg]; rw [if_pos ⟨trivial, hh, hn⟩]; simp only [vI]; rw [if_neg hc]
theorem Wp_iadd {x y : Int} (h : decode (bk k) pc = .ok (.iadd, 1)) : Wp k pc ls (vI y :: vI x :: st) S I Q ↔ (-2147483648 ≤ x + y ∧ x + y ≤ 2147483647) ∧ Wp k (pc + 1) ls (vI (x + y) :: st) S I Q := by
  refine Wp_if (fun hc => ?_) (fun hc => ?_)
  · simp only [stp, h, sti, vI]; rw [if_pos ⟨trivial, hc⟩]; rfl
  · simp only [stp, h, sti, vI]; rw [if_neg (fun z => hc z.2)]
theorem Wp_isub {x y : Int} (h : decode (bk k) pc = .ok (.isub, 1)) : Wp k pc ls (vI y :: vI x :: st) S I Q ↔ (-2147483648 ≤ x - y ∧ x - y ≤ 2147483647) ∧ Wp k (pc + 1) ls (vI (x - y) :: st) S I Q := by
  refine Wp_if (fun hc => ?_) (fun hc => ?_)
  · simp only [stp, h, sti, vI]; rw [if_pos ⟨trivial, hc⟩]; rfl
  · simp only [stp, h, sti, vI]; rw [if_neg (fun z => hc z.2)]
theorem Wp_imul {x y : Int} (h : decode (bk k) pc = .ok (.imul, 1)) : Wp k pc ls (vI y :: vI x :: st) S I Q ↔ (-2147483648 ≤ x * y ∧ x * y ≤ 2147483647) ∧ Wp k (pc + 1) ls (vI (x * y) :: st) S I Q := by
  refine Wp_if (fun hc => ?_) (fun hc => ?_)
  · simp only [stp, h, sti, vI]; rw [if_pos ⟨trivial, hc⟩]; rfl
  · simp only [stp, h, sti, vI]; rw [if_neg (fun z => hc z.2)]
theorem Wp_iand {x y : Int} (h : decode (bk k) pc = .ok (.iand, 1)) : Wp k pc ls (vI y :: vI x :: st) S I Q ↔ Wp k (pc + 1) ls (vI (zand x y) :: st) S I Q :=
  Wp_next (by simp only [stp, h, sti, vI]; rw [if_pos trivial]; rfl)
theorem Wp_i2l {x : Int} (h : decode (bk k) pc = .ok (.i2l, 1)) : Wp k pc ls (vI x :: st) S I Q ↔ Wp k (pc + 1) ls (vL x :: st) S I Q :=
  Wp_next (by simp only [stp, h, sti, vI]; rw [if_pos trivial]; rfl)
theorem Wp_ladd {x y : Int} (h : decode (bk k) pc = .ok (.ladd, 1)) : Wp k pc ls (vL y :: vL x :: st) S I Q ↔ (-9223372036854775808 ≤ x + y ∧ x + y ≤ 9223372036854775807) ∧ Wp k (pc + 1) ls (vL (x + y) :: st) S I Q := by
  refine Wp_if (fun hc => ?_) (fun hc => ?_)
  · simp only [stp, h, sti, vL]; rw [if_pos ⟨trivial, hc⟩]; rfl
  · simp only [stp, h, sti, vL]; rw [if_neg (fun z => hc z.2)]
theorem Wp_lcmp {x y : Int} (h : decode (bk k) pc = .ok (.lcmp, 1)) : Wp k pc ls (vL y :: vL x :: st) S I Q ↔ Wp k (pc + 1) ls (vI (if y < x then 1 else if x = y then 0 else -1) :: st) S I Q :=
  Wp_next (by simp only [stp, h, sti, vL]; rw [if_pos trivial]; rfl)
theorem Wp_dup {v : zV} (h : decode (bk k) pc = .ok (.dup, 1)) (hv : zl v = false) : Wp k pc ls (v :: st) S I Q ↔ Wp k (pc + 1) ls (v :: v :: st) S I Q :=
  Wp_next (by simp only [stp, h, sti]; rw [if_pos ⟨trivial, hv⟩]; rfl)
theorem Wp_dup2 {v w : zV} (h : decode (bk k) pc = .ok (.dup2, 1)) (hv : zl v = false) (hw : zl w = false) : Wp k pc ls (v :: w :: st) S I Q ↔ Wp k (pc + 1) ls (v :: w :: v :: w :: st) S I Q :=
  Wp_next (by simp only [stp, h, sti]; rw [if_pos ⟨trivial, hv, hw⟩]; rfl)
theorem Wp_pop {v : zV} (h : decode (bk k) pc = .ok (.pop, 1)) (hv : zl v = false) : Wp k pc ls (v :: st) S I Q ↔ Wp k (pc + 1) ls st S I Q :=
  Wp_next (by simp only [stp, h, sti]; rw [if_pos ⟨trivial, hv⟩]; rfl)
theorem Wp_goto {off : Int} {t : Nat} (h : decode (bk k) pc = .ok (.goto off, 3)) (ht : (pc : Int) + off = (t : Int)) : Wp k pc ls st S I Q ↔ Wp k t ls st S I Q :=
  Wp_next (by simp only [stp, h, sti]; rw [if_pos ⟨trivial, by omega⟩, ht]; rfl)
theorem Wp_br2 {c : Jvm.ClassFile.Cond} {off x y : Int} {t : Nat} (h : decode (bk k) pc = .ok (.if_icmp c off, 3)) (ht : (pc : Int) + off = (t : Int)) : Wp k pc ls (vI y :: vI x :: st) S I Q ↔ if zc c x y = true then Wp k t ls st S I Q else Wp k (pc + 3) ls st S I Q := by
  have : stp k pc ls (vI y :: vI x :: st) S I = some (.inl (if zc c x y = true then t else pc + 3, ls, st, S, I)) := by
    simp only [stp, h, sti, vI]; rw [if_pos ⟨trivial, by omega⟩, ht]; rfl
  rw [Wp_next this]
  split <;> rfl
theorem Wp_br1 {c : Jvm.ClassFile.Cond} {off x : Int} {t : Nat} (h : decode (bk k) pc = .ok (.ifCond c off, 3)) (ht : (pc : Int) + off = (t : Int)) : Wp k pc ls (vI x :: st) S I Q ↔ if zc c x 0 = true then Wp k t ls st S I Q else Wp k (pc + 3) ls st S I Q := by
  have : stp k pc ls (vI x :: st) S I = some (.inl (if zc c x 0 = true then t else pc + 3, ls, st, S, I)) := by
    simp only [stp, h, sti, vI]; rw [if_pos ⟨trivial, by omega⟩, ht]; rfl
  rw [Wp_next this]
  split <;> rfl
theorem Wp_eq2 {off x y : Int} {t : Nat} (h : decode (bk k) pc = .ok (.if_icmp .eq off, 3)) (ht : (pc : Int) + off = (t : Int)) : Wp k pc ls (vI y :: vI x :: st) S I Q ↔ if x = y then Wp k t ls st S I Q else Wp k (pc + 3) ls st S I Q := by
  rw [Wp_br2 h ht]; simp only [zc, decide_eq_true_eq]
theorem Wp_ne2 {off x y : Int} {t : Nat} (h : decode (bk k) pc = .ok (.if_icmp .ne off, 3)) (ht : (pc : Int) + off = (t : Int)) : Wp k pc ls (vI y :: vI x :: st) S I Q ↔ if x = y then Wp k (pc + 3) ls st S I Q else Wp k t ls st S I Q := by
  rw [Wp_br2 h ht]; by_cases e : x = y <;> simp [zc, e]
theorem Wp_lt2 {off x y : Int} {t : Nat} (h : decode (bk k) pc = .ok (.if_icmp .lt off, 3)) (ht : (pc : Int) + off = (t : Int)) : Wp k pc ls (vI y :: vI x :: st) S I Q ↔ if x < y then Wp k t ls st S I Q else Wp k (pc + 3) ls st S I Q := by
  rw [Wp_br2 h ht]; simp only [zc, decide_eq_true_eq]
theorem Wp_ge2 {off x y : Int} {t : Nat} (h : decode (bk k) pc = .ok (.if_icmp .ge off, 3)) (ht : (pc : Int) + off = (t : Int)) : Wp k pc ls (vI y :: vI x :: st) S I Q ↔ if x < y then Wp k (pc + 3) ls st S I Q else Wp k t ls st S I Q := by
  rw [Wp_br2 h ht]; simp only [zc, decide_eq_true_eq]; split <;> split <;> first | rfl | (exfalso; omega)
theorem Wp_gt2 {off x y : Int} {t : Nat} (h : decode (bk k) pc = .ok (.if_icmp .gt off, 3)) (ht : (pc : Int) + off = (t : Int)) : Wp k pc ls (vI y :: vI x :: st) S I Q ↔ if y < x then Wp k t ls st S I Q else Wp k (pc + 3) ls st S I Q := by
  rw [Wp_br2 h ht]; simp only [zc, decide_eq_true_eq]
theorem Wp_le2 {off x y : Int} {t : Nat} (h : decode (bk k) pc = .ok (.if_icmp .le off, 3)) (ht : (pc : Int) + off = (t : Int)) : Wp k pc ls (vI y :: vI x :: st) S I Q ↔ if y < x then Wp k (pc + 3) ls st S I Q else Wp k t ls st S I Q := by
  rw [Wp_br2 h ht]; simp only [zc, decide_eq_true_eq]; split <;> split <;> first | rfl | (exfalso; omega)
theorem Wp_eq1 {off x : Int} {t : Nat} (h : decode (bk k) pc = .ok (.ifCond .eq off, 3)) (ht : (pc : Int) + off = (t : Int)) : Wp k pc ls (vI x :: st) S I Q ↔ if x = 0 then Wp k t ls st S I Q else Wp k (pc + 3) ls st S I Q := by
  rw [Wp_br1 h ht]; simp only [zc, decide_eq_true_eq]
theorem Wp_ne1 {off x : Int} {t : Nat} (h : decode (bk k) pc = .ok (.ifCond .ne off, 3)) (ht : (pc : Int) + off = (t : Int)) : Wp k pc ls (vI x :: st) S I Q ↔ if x = 0 then Wp k (pc + 3) ls st S I Q else Wp k t ls st S I Q := by
  rw [Wp_br1 h ht]; by_cases e : x = 0 <;> simp [zc, e]
theorem Wp_lt1 {off x : Int} {t : Nat} (h : decode (bk k) pc = .ok (.ifCond .lt off, 3)) (ht : (pc : Int) + off = (t : Int)) : Wp k pc ls (vI x :: st) S I Q ↔ if x < 0 then Wp k t ls st S I Q else Wp k (pc + 3) ls st S I Q := by
  rw [Wp_br1 h ht]; simp only [zc, decide_eq_true_eq]
theorem Wp_ge1 {off x : Int} {t : Nat} (h : decode (bk k) pc = .ok (.ifCond .ge off, 3)) (ht : (pc : Int) + off = (t : Int)) : Wp k pc ls (vI x :: st) S I Q ↔ if x < 0 then Wp k (pc + 3) ls st S I Q else Wp k t ls st S I Q := by
  rw [Wp_br1 h ht]; simp only [zc, decide_eq_true_eq]; split <;> split <;> first | rfl | (exfalso; omega)
theorem Wp_gt1 {off x : Int} {t : Nat} (h : decode (bk k) pc = .ok (.ifCond .gt off, 3)) (ht : (pc : Int) + off = (t : Int)) : Wp k pc ls (vI x :: st) S I Q ↔ if 0 < x then Wp k t ls st S I Q else Wp k (pc + 3) ls st S I Q := by
  rw [Wp_br1 h ht]; simp only [zc, decide_eq_true_eq]
theorem Wp_le1 {off x : Int} {t : Nat} (h : decode (bk k) pc = .ok (.ifCond .le off, 3)) (ht : (pc : Int) + off = (t : Int)) : Wp k pc ls (vI x :: st) S I Q ↔ if 0 < x then Wp k (pc + 3) ls st S I Q else Wp k t ls st S I Q := by
  rw [Wp_br1 h ht]; simp only [zc, decide_eq_true_eq]; split <;> split <;> first | rfl | (exfalso; omega)
theorem Wp_tsIn {df lo hi x o : Int} {offs : Array Int} {len t : Nat} (h : decode (bk k) pc = .ok (.tableswitch df lo hi offs, len)) (h1 : ¬ (x < lo ∨ hi < x)) (ho : offs[(x - lo).toNat]? = some o) (ht : (pc : Int) + o = (t : Int)) : Wp k pc ls (vI x :: st) S I Q ↔ Wp k t ls st S I Q :=
  Wp_next (by simp only [stp, h, sti, vI]; rw [if_neg h1, ho]; dsimp only; rw [if_pos (by omega), ht]; rfl)
theorem Wp_tsOut {df lo hi x : Int} {offs : Array Int} {len t : Nat} (h : decode (bk k) pc = .ok (.tableswitch df lo hi offs, len)) (h1 : x < lo ∨ hi < x) (ht : (pc : Int) + df = (t : Int)) : Wp k pc ls (vI x :: st) S I Q ↔ Wp k t ls st S I Q :=
  Wp_next (by simp only [stp, h, sti, vI]; rw [if_pos h1, if_pos (by omega), ht]; rfl)
theorem Wp_getI {i ci j : Nat} {a : Nat} (h : decode (bk k) pc = .ok (.getfield i, 3)) (hf : fd (ok k) i = some (ci, j)) (ht : ft ci j ≤ 1) : Wp k pc ls (vR a :: st) S I Q ↔ kd S a = ci + 2 ∧ Wp k (pc + 3) ls (vI (I a j) :: st) S I Q := by
  refine Wp_if (fun hc => ?_) (fun hc => ?_)
  · simp only [stp, h, sti, hf, zgf, vR]; rw [if_pos trivial, if_pos hc, if_pos ht]; rfl
  · simp only [stp, h, sti, hf, zgf, vR]; rw [if_pos trivial, if_neg hc]
theorem Wp_getS {i ci j : Nat} {a : Nat} (h : decode (bk k) pc = .ok (.getfield i, 3)) (hf : fd (ok k) i = some (ci, j)) (ht0 : ¬ ft ci j ≤ 1) (ht : ft ci j ≤ 3) : Wp k pc ls (vR a :: st) S I Q ↔ kd S a = ci + 2 ∧ Wp k (pc + 3) ls (vI (sd S a j) :: st) S I Q := by
  refine Wp_if (fun hc => ?_) (fun hc => ?_)
  · simp only [stp, h, sti, hf, zgf, vR]; rw [if_pos trivial, if_pos hc, if_neg ht0, if_pos ht]; rfl
  · simp only [stp, h, sti, hf, zgf, vR]; rw [if_pos trivial, if_neg hc]
theorem Wp_getR {i ci j : Nat} {a : Nat} (h : decode (bk k) pc = .ok (.getfield i, 3)) (hf : fd (ok k) i = some (ci, j)) (ht0 : ¬ ft ci j ≤ 3) (ht : ft ci j ≤ 5) : Wp k pc ls (vR a :: st) S I Q ↔ (kd S a = ci + 2 ∧ 0 < sd S a j) ∧ Wp k (pc + 3) ls (vR (sd S a j - 1) :: st) S I Q := by
  refine Wp_if (fun hc => ?_) (fun hc => ?_)
  · simp only [stp, h, sti, hf, zgf, vR]; rw [if_pos trivial, if_pos hc.1, if_neg (by omega), if_neg ht0, if_pos ⟨ht, hc.2⟩]; rfl
  · simp only [stp, h, sti, hf, zgf, vR]; rw [if_pos trivial]
    by_cases h1 : kd S a = ci + 2
    · rw [if_pos h1, if_neg (by omega), if_neg ht0, if_neg (fun z => hc ⟨h1, z.2⟩)]
    · rw [if_neg h1]
theorem Wp_putI {i ci j : Nat} {a : Nat} {x : Int} (h : decode (bk k) pc = .ok (.putfield i, 3)) (hf : fd (ok k) i = some (ci, j)) (ht : ft ci j = 0) : Wp k pc ls (vI x :: vR a :: st) S I Q ↔ kd S a = ci + 2 ∧ Wp k (pc + 3) ls st S (up I a j x) Q := by
  refine Wp_if (fun hc => ?_) (fun hc => ?_)
  · simp only [stp, h, sti, hf, zpf, vR, vI]; rw [if_pos trivial, if_pos hc, if_pos ht]; rfl
  · simp only [stp, h, sti, hf, zpf, vR, vI]; rw [if_pos trivial, if_neg hc]
theorem Wp_putZ {i ci j : Nat} {a : Nat} {x : Int} (h : decode (bk k) pc = .ok (.putfield i, 3)) (hf : fd (ok k) i = some (ci, j)) (ht : ft ci j = 1) : Wp k pc ls (vI x :: vR a :: st) S I Q ↔ (kd S a = ci + 2 ∧ (x = 0 ∨ x = 1)) ∧ Wp k (pc + 3) ls st S (up I a j x) Q := by
  refine Wp_if (fun hc => ?_) (fun hc => ?_)
  · simp only [stp, h, sti, hf, zpf, vR, vI]; rw [if_pos trivial, if_pos hc.1, if_neg (by omega), if_pos ht, if_pos hc.2]; rfl
  · simp only [stp, h, sti, hf, zpf, vR, vI]; rw [if_pos trivial]
    by_cases h1 : kd S a = ci + 2
    · rw [if_pos h1, if_neg (by omega), if_pos ht, if_neg (fun z => hc ⟨h1, z⟩)]
    · rw [if_neg h1]
theorem Wp_putF {i ci j : Nat} {a : Nat} {x : Int} (h : decode (bk k) pc = .ok (.putfield i, 3)) (hf : fd (ok k) i = some (ci, j)) (ht : ft ci j = 2) (hi : ik k = 2 ∧ ok k = ci) : Wp k pc ls (vI x :: vR a :: st) S I Q ↔ (kd S a = ci + 2 ∧ 0 ≤ x) ∧ Wp k (pc + 3) ls st (ss S a j x.toNat) I Q := by
  refine Wp_if (fun hc => ?_) (fun hc => ?_)
  · simp only [stp, h, sti, hf, zpf, vR, vI]; rw [if_pos trivial, if_pos hc.1, if_neg (by omega), if_neg (by omega), if_pos ⟨ht, hc.2, hi⟩]; rfl
  · simp only [stp, h, sti, hf, zpf, vR, vI]; rw [if_pos trivial]
    by_cases h1 : kd S a = ci + 2
    · rw [if_pos h1, if_neg (by omega), if_neg (by omega), if_neg (fun z => hc ⟨h1, z.2.1⟩), if_neg (by omega)]
    · rw [if_neg h1]
theorem Wp_putG {i ci j : Nat} {a : Nat} {x : Int} (h : decode (bk k) pc = .ok (.putfield i, 3)) (hf : fd (ok k) i = some (ci, j)) (ht : ft ci j = 3) (hi : ik k = 2 ∧ ok k = ci) : Wp k pc ls (vI x :: vR a :: st) S I Q ↔ (kd S a = ci + 2 ∧ (x = 0 ∨ x = 1)) ∧ Wp k (pc + 3) ls st (ss S a j x.toNat) I Q := by
  refine Wp_if (fun hc => ?_) (fun hc => ?_)
  · simp only [stp, h, sti, hf, zpf, vR, vI]; rw [if_pos trivial, if_pos hc.1, if_neg (by omega), if_neg (by omega), if_neg (by omega), if_pos ⟨ht, hc.2, hi⟩]; rfl
  · simp only [stp, h, sti, hf, zpf, vR, vI]; rw [if_pos trivial]
    by_cases h1 : kd S a = ci + 2
    · rw [if_pos h1, if_neg (by omega), if_neg (by omega), if_neg (by omega), if_neg (fun z => hc ⟨h1, z.2.1⟩)]
    · rw [if_neg h1]
theorem Wp_putR {i ci j : Nat} {a b : Nat} (h : decode (bk k) pc = .ok (.putfield i, 3)) (hf : fd (ok k) i = some (ci, j)) (ht : (ft ci j = 4 ∧ ik k = 2 ∧ ok k = ci) ∨ ft ci j = 5) : Wp k pc ls (vR b :: vR a :: st) S I Q ↔ kd S a = ci + 2 ∧ Wp k (pc + 3) ls st (ss S a j (b + 1)) I Q := by
  refine Wp_if (fun hc => ?_) (fun hc => ?_)
  · simp only [stp, h, sti, hf, zpf, vR, vI]; rw [if_pos trivial, if_pos hc]
    rcases ht with ht | ht
    · rw [if_pos ht]; rfl
    · rw [if_neg (by omega), if_pos ht]; rfl
  · simp only [stp, h, sti, hf, zpf, vR, vI]; rw [if_pos trivial, if_neg hc]
theorem Wp_iaload {a : Nat} {j : Int} (h : decode (bk k) pc = .ok (.iaload, 1)) : Wp k pc ls (vI j :: vR a :: st) S I Q ↔ (kd S a = 0 ∧ 0 ≤ j ∧ j < (sd S a 0 : Int)) ∧ Wp k (pc + 1) ls (vI (I a j) :: st) S I Q := by
  refine Wp_if (fun hc => ?_) (fun hc => ?_)
  · simp only [stp, h, sti, zal, vR, vI]; rw [if_pos trivial, if_pos hc]; rfl
  · simp only [stp, h, sti, zal, vR, vI]; rw [if_pos trivial, if_neg hc]
theorem Wp_xaload {j : Int} (h : decode (bk k) pc = .ok (.iaload, 1)) : Wp k pc ls (vI j :: vX :: st) S I Q ↔ (0 ≤ j ∧ j < (S.2.1 : Int)) ∧ Wp k (pc + 1) ls (vI (S.2.2 j) :: st) S I Q := by
  refine Wp_if (fun hc => ?_) (fun hc => ?_)
  · simp only [stp, h, sti, zal, vX, vI]; rw [if_pos trivial, if_pos ⟨trivial, hc⟩]; rfl
  · simp only [stp, h, sti, zal, vX, vI]; rw [if_pos trivial, if_neg (fun z => hc z.2)]
theorem Wp_baload {a : Nat} {j : Int} (h : decode (bk k) pc = .ok (.baload, 1)) : Wp k pc ls (vI j :: vR a :: st) S I Q ↔ (kd S a = 1 ∧ 0 ≤ j ∧ j < (sd S a 0 : Int)) ∧ Wp k (pc + 1) ls (vI (I a j) :: st) S I Q := by
  refine Wp_if (fun hc => ?_) (fun hc => ?_)
  · simp only [stp, h, sti, zal, vR, vI]; rw [if_pos trivial, if_pos hc]; rfl
  · simp only [stp, h, sti, zal, vR, vI]; rw [if_pos trivial, if_neg hc]
theorem Wp_iastore {a : Nat} {j x : Int} (h : decode (bk k) pc = .ok (.iastore, 1)) : Wp k pc ls (vI x :: vI j :: vR a :: st) S I Q ↔ (kd S a = 0 ∧ 0 ≤ j ∧ j < (sd S a 0 : Int)) ∧ Wp k (pc + 1) ls st S (up I a j x) Q := by
  refine Wp_if (fun hc => ?_) (fun hc => ?_)
  · simp only [stp, h, sti, zas, vR, vI]; rw [if_pos trivial, if_pos ⟨hc.1, hc.2.1, hc.2.2, Or.inl trivial⟩]; rfl
  · simp only [stp, h, sti, zas, vR, vI]; rw [if_pos trivial, if_neg (fun z => hc ⟨z.1, z.2.1, z.2.2.1⟩)]
theorem Wp_bastore {a : Nat} {j x : Int} (h : decode (bk k) pc = .ok (.bastore, 1)) : Wp k pc ls (vI x :: vI j :: vR a :: st) S I Q ↔ (kd S a = 1 ∧ 0 ≤ j ∧ j < (sd S a 0 : Int) ∧ (x = 0 ∨ x = 1)) ∧ Wp k (pc + 1) ls st S (up I a j x) Q := by
  refine Wp_if (fun hc => ?_) (fun hc => ?_)
  · simp only [stp, h, sti, zas, vR, vI]; rw [if_pos trivial, if_pos ⟨hc.1, hc.2.1, hc.2.2.1, Or.inr hc.2.2.2⟩]; rfl
  · simp only [stp, h, sti, zas, vR, vI]; rw [if_pos trivial, if_neg (fun z => hc ⟨z.1, z.2.1, z.2.2.1, by rcases z.2.2.2 with y | y; exact absurd y (by omega); exact y⟩)]
theorem Wp_alen {a : Nat} (h : decode (bk k) pc = .ok (.arraylength, 1)) : Wp k pc ls (vR a :: st) S I Q ↔ kd S a ≤ 1 ∧ Wp k (pc + 1) ls (vI (sd S a 0) :: st) S I Q := by
  refine Wp_if (fun hc => ?_) (fun hc => ?_)
  · simp only [stp, h, sti, vR]; rw [if_pos ⟨trivial, hc⟩]; rfl
  · simp only [stp, h, sti, vR]; rw [if_neg (fun z => hc z.2)]
theorem Wp_xlen (h : decode (bk k) pc = .ok (.arraylength, 1)) : Wp k pc ls (vX :: st) S I Q ↔ Wp k (pc + 1) ls (vI (S.2.1 : Int) :: st) S I Q :=
  Wp_next (by simp only [stp, h, sti, vX]; rw [if_pos trivial]; rfl)
theorem Wp_new {i ci N : Nat} (h : decode (bk k) pc = .ok (.new i, 3)) (hn : nw (ok k) i = some ci) (hN : nf ci = N) : Wp k pc ls st S I Q ↔ Wp k (pc + 3) ls (vR S.1.length :: st) (sp S (ci + 2, List.replicate N 0)) (cz I S.1.length) Q :=
  Wp_next (by subst hN; simp only [stp, h, sti, hn]; rw [if_pos trivial]; rfl)
theorem Wp_newi {n : Int} (h : decode (bk k) pc = .ok (.newarray .int, 2)) : Wp k pc ls (vI n :: st) S I Q ↔ (0 ≤ n ∧ n ≤ 1000000) ∧ Wp k (pc + 2) ls (vR S.1.length :: st) (sp S (0, [n.toNat])) (cz I S.1.length) Q := by
  refine Wp_if (fun hc => ?_) (fun hc => ?_)
  · simp only [stp, h, sti, vI]; rw [if_pos ⟨trivial, hc⟩]; simp only [if_true]; rfl
  · simp only [stp, h, sti, vI]; rw [if_neg (fun z => hc z.2)]
theorem Wp_newz {n : Int} (h : decode (bk k) pc = .ok (.newarray .boolean, 2)) : Wp k pc ls (vI n :: st) S I Q ↔ (0 ≤ n ∧ n ≤ 1000000) ∧ Wp k (pc + 2) ls (vR S.1.length :: st) (sp S (1, [n.toNat])) (cz I S.1.length) Q := by
  refine Wp_if (fun hc => ?_) (fun hc => ?_)
  · simp only [stp, h, sti, vI]; rw [if_pos ⟨trivial, hc⟩, if_neg (by decide)]; simp only [if_true]; rfl
  · simp only [stp, h, sti, vI]; rw [if_neg (fun z => hc z.2)]
theorem Wp_cv {i q k' n : Nat} {a : Nat} {rest ls0 : List zV} (h : decode (bk k) pc = .ok (.invokevirtual i, 3)) (hl : lkk (ok k) i = some (q, k')) (hq : q ≤ 1 ∧ ik k' = 1) (hn : nk k' = n) {c : Nat} (hc' : ok k' + 2 = c) (h1 : st.drop n = vR a :: rest) (h2 : (st.take n).length = n) (h3 : zro k k') (h4 : zws rest ≤ 8) (h5 : zok k' (vR a :: (st.take n).reverse)) (h6 : zen k' (vR a :: (st.take n).reverse) = ls0) :
    Wp k pc ls st S I Q ↔ kd S a = c ∧ Wp k' 0 ls0 [] S I (fun r S1 I1 => Wp k (pc + 3) ls (zpu r rest) S1 I1 Q) := by
  subst hn; subst hc'; subst h6
  have h1 : st.drop (nk k') = Sum.inr (Sum.inl a) :: rest := h1
  by_cases hc : kd S a = ok k' + 2
  · rw [Wp_call (k' := k') (ls0 := zen k' (vR a :: (st.take (nk k')).reverse)) (rest := rest)]
    · exact ⟨fun h => ⟨hc, h⟩, fun h => h.2⟩
    · simp only [stp, h, sti, hl, zcv, h1]; rw [if_pos trivial, if_pos hq, if_pos ⟨h2, hc, h3, h4, h5⟩]; rfl
  · rw [Wp_stuck]
    · exact ⟨False.elim, fun h => hc h.1⟩
    · simp only [stp, h, sti, hl, zcv, h1]; rw [if_pos trivial, if_pos hq, if_neg (fun z => hc z.2.1)]
theorem Wp_ci {i q k' n : Nat} {a : Nat} {rest ls0 : List zV} (h : decode (bk k) pc = .ok (.invokespecial i, 3)) (hl : lkk (ok k) i = some (q, k')) (hq : q ≤ 1 ∧ ik k' = 2) (hn : nk k' = n) {c : Nat} (hc' : ok k' + 2 = c) (h1 : st.drop n = vR a :: rest) (h2 : (st.take n).length = n) (h3 : zro k k') (h4 : zws rest ≤ 8) (h5 : zok k' (vR a :: (st.take n).reverse)) (h6 : zen k' (vR a :: (st.take n).reverse) = ls0) :
    Wp k pc ls st S I Q ↔ kd S a = c ∧ Wp k' 0 ls0 [] S I (fun r S1 I1 => Wp k (pc + 3) ls (zpu r rest) S1 I1 Q) := by
  subst hn; subst hc'; subst h6
  have h1 : st.drop (nk k') = Sum.inr (Sum.inl a) :: rest := h1
  by_cases hc : kd S a = ok k' + 2
  · rw [Wp_call (k' := k') (ls0 := zen k' (vR a :: (st.take (nk k')).reverse)) (rest := rest)]
    · exact ⟨fun h => ⟨hc, h⟩, fun h => h.2⟩
    · simp only [stp, h, sti, hl, zcv, h1]; rw [if_pos trivial, if_pos hq, if_pos ⟨h2, hc, h3, h4, h5⟩]; rfl
  · rw [Wp_stuck]
    · exact ⟨False.elim, fun h => hc h.1⟩
    · simp only [stp, h, sti, hl, zcv, h1]; rw [if_pos trivial, if_pos hq, if_neg (fun z => hc z.2.1)]
theorem Wp_cs {i q k' n : Nat} {rest ls0 : List zV} (h : decode (bk k) pc = .ok (.invokestatic i, 3)) (hl : lkk (ok k) i = some (q, k')) (hq : q ≤ 1 ∧ ik k' = 0) (hn : nk k' = n) (h1 : st.drop n = rest) (h2 : (st.take n).length = n) (h3 : zro k k') (h4 : zws rest ≤ 8) (h5 : zok k' (st.take n).reverse) (h6 : zen k' (st.take n).reverse = ls0) :
    Wp k pc ls st S I Q ↔ Wp k' 0 ls0 [] S I (fun r S1 I1 => Wp k (pc + 3) ls (zpu r rest) S1 I1 Q) := by
  subst hn; subst h1; subst h6
  exact Wp_call (by simp only [stp, h, sti, hl, zcs]; rw [if_pos trivial, if_pos hq, if_pos ⟨h2, h3, h4, h5⟩]; rfl)
theorem Wp_ob {i k' : Nat} {a : Nat} (h : decode (bk k) pc = .ok (.invokespecial i, 3)) (hl : lkk (ok k) i = some (2, k')) (h1 : 1 ≤ fk k ∧ zws st + 12 ≤ ck k) : Wp k pc ls (vR a :: st) S I Q ↔ Wp k (pc + 3) ls st S I Q :=
  Wp_next (by simp only [stp, h, sti, hl, zob, vR]; rw [if_pos trivial, if_neg (by simp), if_pos trivial, if_pos h1]; rfl)
theorem Wp_mx {i k' : Nat} {x y : Int} (h : decode (bk k) pc = .ok (.invokestatic i, 3)) (hl : lkk (ok k) i = some (3, k')) (h1 : 1 ≤ fk k ∧ zws st + 13 ≤ ck k) : Wp k pc ls (vI y :: vI x :: st) S I Q ↔ Wp k (pc + 3) ls (vI (max x y) :: st) S I Q :=
  Wp_next (by simp only [stp, h, sti, hl, zmx, vI]; rw [if_pos trivial, if_neg (by simp), if_pos (Or.inl trivial), if_pos h1]; have e : (if x < y then y else x) = max x y := by split <;> omega
              simp only [if_true, e]; rfl)
theorem Wp_mi {i k' : Nat} {x y : Int} (h : decode (bk k) pc = .ok (.invokestatic i, 3)) (hl : lkk (ok k) i = some (4, k')) (h1 : 1 ≤ fk k ∧ zws st + 13 ≤ ck k) : Wp k pc ls (vI y :: vI x :: st) S I Q ↔ Wp k (pc + 3) ls (vI (min x y) :: st) S I Q :=
  Wp_next (by simp only [stp, h, sti, hl, zmx, vI]; rw [if_pos trivial, if_neg (by simp), if_pos (Or.inr trivial), if_pos h1]; have e : (if y < x then y else x) = min x y := by split <;> omega
              rw [if_neg (by omega), e]; rfl)
theorem Wp_ireturn {x : Int} (h : decode (bk k) pc = .ok (.ireturn, 1)) (hr : rk k = some .int) : Wp k pc ls [vI x] S I Q ↔ Q (vI x) S I :=
  Wp_ret (by simp only [stp, h, sti, vI]; rw [if_pos ⟨trivial, Or.inl hr⟩]; rfl)
theorem Wp_zreturn {x : Int} (h : decode (bk k) pc = .ok (.ireturn, 1)) (hr : rk k = some .boolean) : Wp k pc ls [vI x] S I Q ↔ (x = 0 ∨ x = 1) ∧ Q (vI x) S I := by
  by_cases hc : x = 0 ∨ x = 1
  · rw [Wp_ret (r := vI x)]
    · exact ⟨fun h => ⟨hc, h⟩, fun h => h.2⟩
    · simp only [stp, h, sti, vI]; rw [if_pos ⟨trivial, Or.inr ⟨hr, hc⟩⟩]; rfl
  · rw [Wp_stuck]
    · exact ⟨False.elim, fun h => hc h.1⟩
    · simp only [stp, h, sti, vI]; rw [if_neg (fun z => by rcases z.2 with y | y; rw [hr] at y; cases y; exact hc y.2)]
theorem Wp_areturn {a : Nat} {nm : String} (h : decode (bk k) pc = .ok (.areturn, 1)) (hr : rk k = some (.object nm)) : Wp k pc ls [vR a] S I Q ↔ Q (vR a) S I :=
  Wp_ret (by simp only [stp, h, sti, vR, hr]; rw [if_pos trivial]; rfl)
theorem Wp_return (h : decode (bk k) pc = .ok (.return_, 1)) (hr : rk k = none) : Wp k pc ls [] S I Q ↔ Q vU S I :=
  Wp_ret (by simp only [stp, h, sti]; rw [if_pos ⟨trivial, hr⟩]; rfl)
end WR
