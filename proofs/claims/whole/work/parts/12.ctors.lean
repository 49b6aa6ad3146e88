/-! ===== what the class's constructors make: at the least, by the elements of their arrays ===== -/
section CT
/-- the elements of all arrays -/
def zar (S : zS) : Nat := (S.1.map (fun q => if q.1 ≤ 1 then q.2.getD 0 0 else 0)).sum
theorem kd_sp (S : zS) (q : Nat × List Nat) (a : Nat) : kd (sp S q) a = if a = S.1.length then q.1 else kd S a := by
  unfold kd sp
  dsimp only
  by_cases h : a < S.1.length
  · rw [List.getElem?_append_left h, if_neg (by omega)]
  · by_cases e : a = S.1.length
    · subst e; simp
    · rw [if_neg e, List.getElem?_eq_none (by simp; omega), List.getElem?_eq_none (by omega)]
theorem kd_spn (S : zS) (q : Nat × List Nat) : kd (sp S q) S.1.length = q.1 := by rw [kd_sp, if_pos rfl]
theorem kd_ss (S : zS) (a j v a' : Nat) : kd (ss S a j v) a' = kd S a' := by
  unfold kd ss
  dsimp only
  rw [List.getElem?_modify]
  cases S.1[a']? with
  | none => rfl
  | some q => by_cases e : a = a' <;> simp [e]
theorem kd_lt {S : zS} {a : Nat} (h : kd S a < 900) : a < S.1.length := by
  obtain ⟨q, -, -, -, h4⟩ := kd_some rfl h
  exact h4
theorem zar_sp (S : zS) (q : Nat × List Nat) : zar (sp S q) = zar S + (if q.1 ≤ 1 then q.2.getD 0 0 else 0) := by
  unfold zar sp
  simp
theorem zar_mod (f : Nat × List Nat → Nat) (g : Nat × List Nat → Nat × List Nat) : ∀ (l : List (Nat × List Nat)) (a : Nat), (∀ q, l[a]? = some q → f (g q) = f q) → ((l.modify a g).map f).sum = (l.map f).sum := by
  intro l
  induction l with
  | nil => intro a h; cases a <;> rfl
  | cons x l ih =>
    intro a h
    cases a with
    | zero =>
      have := h x rfl
      simp [this]
    | succ a =>
      have := ih a (fun q hq => h q (by simpa using hq))
      simp [this]
theorem zar_ss {S : zS} {a : Nat} (h : 2 ≤ kd S a) (j v : Nat) : zar (ss S a j v) = zar S := by
  unfold zar ss
  refine zar_mod _ _ S.1 a (fun q hq => ?_)
  have h1 : kd S a = q.1 := by unfold kd; rw [hq]
  have h2 : ¬ q.1 ≤ 1 := by omega
  dsimp only
  rw [if_neg h2, if_neg h2]
theorem zsl_sp (S : zS) (q : Nat × List Nat) : zsl (sp S q) = zsl S + (if q.1 ≤ 1 then q.2.getD 0 0 else q.2.length) := by
  unfold zsl sp
  simp
theorem zsl_ss2 {S : zS} {a : Nat} (h : 2 ≤ kd S a) (j v : Nat) : zsl (ss S a j v) = zsl S := by
  unfold zsl ss
  refine zar_mod _ _ S.1 a (fun q hq => ?_)
  have h1 : kd S a = q.1 := by unfold kd; rw [hq]
  have h2 : ¬ q.1 ≤ 1 := by omega
  dsimp only
  rw [if_neg h2, if_neg h2, List.length_set]
theorem ln_sp (S : zS) (q : Nat × List Nat) : (sp S q).1.length = S.1.length + 1 := by simp [sp]
theorem ln_ss (S : zS) (a j v : Nat) : (ss S a j v).1.length = S.1.length := by simp [ss]
/-- from S to S': n elements of arrays, m cells, w slots more; what was there keeps its kind -/
def zG (S S' : zS) (n m w : Nat) : Prop := zar S' = zar S + n ∧ S'.1.length = S.1.length + m ∧ zsl S' = zsl S + w ∧ ∀ b, kd S b < 900 → kd S' b = kd S b
theorem zG_cast {S S' : zS} {n m w n' m' w' : Nat} (h : zG S S' n m w) (e1 : n = n') (e2 : m = m') (e3 : w = w') : zG S S' n' m' w' := by subst e1; subst e2; subst e3; exact h
theorem zG_rf (S : zS) : zG S S 0 0 0 := ⟨rfl, rfl, rfl, fun _ _ => rfl⟩
theorem zG_kd {S S' : zS} {n m w a t : Nat} (h : zG S S' n m w) (e : kd S a = t) (ht : t < 900) : kd S' a = t := by
  rw [h.2.2.2 a (by omega)]; exact e
theorem zG_kd2 {S S1 S2 : zS} {n m w n' m' w' a t : Nat} {q : Nat × List Nat} (h : zG S S1 n m w) (h2 : zG (sp S1 q) S2 n' m' w') (e : kd S a = t) (ht : t < 900) : kd S2 a = t := by
  have e1 := zG_kd h e ht
  have e2 : a ≠ S1.1.length := Nat.ne_of_lt (kd_lt (by omega))
  refine zG_kd h2 ?_ ht
  rw [kd_sp, if_neg e2]; exact e1
/-- a field's row or object is made, built and put down -/
theorem zG_blk {S S1 S2 : zS} {n m w n' m' w' a t : Nat} {q : Nat × List Nat} (h : zG S S1 n m w) (h2 : zG (sp S1 q) S2 n' m' w') (hq : 2 ≤ q.1) (e : kd S a = t) (ht2 : 2 ≤ t) (ht : t < 900) (j v : Nat) : zG S (ss S2 a j v) (n + n') (m + 1 + m') (w + q.2.length + w') := by
  have e2 := zG_kd2 h h2 e ht
  have hq1 : ¬ q.1 ≤ 1 := by omega
  obtain ⟨a1, a2, a3, a4⟩ := h
  obtain ⟨b1, b2, b3, b4⟩ := h2
  rw [zar_sp, if_neg hq1] at b1
  rw [ln_sp] at b2
  rw [zsl_sp, if_neg hq1] at b3
  refine ⟨?_, ?_, ?_, fun b hb => ?_⟩
  · rw [zar_ss (by omega)]; omega
  · rw [ln_ss]; omega
  · rw [zsl_ss2 (by omega)]; omega
  · have c1 : kd S1 b = kd S b := a4 b hb
    have c2 : b < S1.1.length := kd_lt (by omega)
    have c3 := b4 b (by rw [kd_sp, if_neg (Nat.ne_of_lt c2)]; omega)
    rw [kd_ss, c3, kd_sp, if_neg (Nat.ne_of_lt c2), c1]
theorem zG_fld {S S1 : zS} {n m w a t : Nat} (h : zG S S1 n m w) (e : kd S a = t) (ht2 : 2 ≤ t) (ht : t < 900) (j v : Nat) : zG S (ss S1 a j v) n m w := by
  have e2 := zG_kd h e ht
  obtain ⟨a1, a2, a3, a4⟩ := h
  refine ⟨?_, ?_, ?_, fun b hb => ?_⟩
  · rw [zar_ss (by omega)]; exact a1
  · rw [ln_ss]; exact a2
  · rw [zsl_ss2 (by omega)]; exact a3
  · rw [kd_ss]; exact a4 b hb

theorem c_within (v lo hi : Int) (S : zS) (I : zM) (Q : zV → zS → zM → Prop) (h1 : lo ≤ v) (h2 : v ≤ hi) : Wp 184 0 [vI v, vI lo, vI hi] [] S I Q ↔ Q (vI 1) S I := by
  have e1 : ¬ v < lo := by omega
  have e2 : ¬ hi < v := by omega
  simp only [w184_0, w184_1, w184_2, w184_5, w184_6, w184_7, w184_10, w184_11, w184_14, w184_15, if_neg e1, if_neg e2]
  exact ⟨fun h => h.2, fun h => ⟨Or.inr (by trivial), h⟩⟩
theorem c_X5 (a : Nat) (x : Int) (S : zS) (I : zM) (hk : kd S a = 7) (h1 : 0 < x) (h2 : x ≤ 256) : Wp 76 0 [vR a, vI x] [] S I (fun r S' _ => r = vU ∧ zG S S' x.toNat 1 x.toNat) := by
  have e2 : ¬ 256 < x := by omega
  have ha : a < S.1.length := kd_lt (by omega)
  simp only [w76_0, w76_1, w76_4, w76_5, w76_6, w76_9, w76_10, w76_13, w76_16, w76_17, w76_20, w76_21, w76_23, w76_26, if_pos h1, if_neg e2]
  have k1 : kd (sp S (0, [x.toNat])) a = 7 := by rw [kd_sp, if_neg (Nat.ne_of_lt ha)]; exact hk
  refine ⟨⟨by omega, by omega⟩, k1, (by trivial), ?_, ?_, ?_, fun b hb => ?_⟩
  · rw [zar_ss (by omega), zar_sp]; rfl
  · rw [ln_ss, ln_sp]
  · rw [zsl_ss2 (by omega), zsl_sp]; rfl
  · rw [kd_ss, kd_sp, if_neg (Nat.ne_of_lt (kd_lt hb))]
theorem c_X8 (a : Nat) (x y : Int) (S : zS) (I : zM) (hk : kd S a = 10) (h1 : 1 ≤ x) (h2 : x ≤ 256) (h3 : 1 ≤ y) (h4 : y ≤ 256) (h5 : 0 ≤ x * y) (h6 : x * y ≤ 1000000) : Wp 112 0 [vR a, vI x, vI y, vU] [] S I (fun r S' _ => r = vU ∧ zG S S' (x * y).toNat 1 (x * y).toNat) := by
  have ha : a < S.1.length := kd_lt (by omega)
  have e0 : ¬ (1 : Int) = 0 := by decide
  have hk2 : ∀ j v, kd (ss S a j v) a = 10 := fun j v => by rw [kd_ss]; exact hk
  simp only [w112_0, w112_1, w112_4, w112_5, w112_6, w112_9, w112_12, w112_15, w112_16, w112_17, w112_20, w112_23, w112_26, w112_27, w112_30, w112_31, w112_32, w112_33, w112_34, w112_37, w112_38, w112_41, w112_42, w112_45, w112_46, w112_47, w112_50, w112_51, w112_54, w112_55, w112_58, w112_59, w112_60, w112_63, w112_64, w112_65, w112_66, w112_69, w112_70, w112_72, w112_75, c_within x 1 256 _ _ _ h1 h2, c_within y 1 256 _ _ _ h3 h4, zpu_I, if_neg e0]
  have l2 : (ss (ss S a 0 x.toNat) a 1 y.toNat).1.length = S.1.length := by rw [ln_ss, ln_ss]
  have k2 : kd (ss (ss S a 0 x.toNat) a 1 y.toNat) a = 10 := by rw [kd_ss, kd_ss]; exact hk
  have k3 : kd (sp (ss (ss S a 0 x.toNat) a 1 y.toNat) (0, [(x * y).toNat])) a = 10 := by rw [kd_sp, if_neg (by omega)]; exact k2
  refine ⟨⟨hk, by omega⟩, ⟨by rw [kd_ss]; exact hk, by omega⟩, ⟨by omega, by omega⟩, ⟨h5, h6⟩, k3, (by trivial), ?_, ?_, ?_, fun b hb => ?_⟩
  · rw [zar_ss (by omega), zar_sp, zar_ss (by rw [kd_ss]; omega), zar_ss (by omega)]; rfl
  · rw [ln_ss, ln_sp, ln_ss, ln_ss]
  · rw [zsl_ss2 (by omega), zsl_sp, zsl_ss2 (by rw [kd_ss]; omega), zsl_ss2 (by omega)]; rfl
  · have := kd_lt hb
    rw [kd_ss, kd_sp, if_neg (by omega), kd_ss, kd_ss]

theorem c_X2 (a : Nat) (S : zS) (I : zM) (hk : kd S a = 4) : Wp 33 0 [vR a] [] S I (fun r S' _ => r = vU ∧ zG S S' 64 6 69) := by
  have g : zG S S 0 0 0 := zG_rf S
  simp only [w33_0, w33_1, w33_4, w33_5, w33_8, w33_9, w33_11]
  refine ⟨kd_spn _ _, Wp_mono (c_X5 _ _ _ _ (kd_spn _ _) (by decide) (by decide)) ?_⟩
  rintro _ S1 I1 ⟨rfl, h1⟩
  simp only [zpu_U, w33_14]
  refine ⟨zG_kd2 g h1 hk (by decide), ?_⟩
  replace g := zG_blk g h1 (by decide) hk (by decide) (by decide) 0 (S.1.length + 1)
  clear h1
  revert g
  generalize ss S1 a 0 (S.1.length + 1) = T1
  intro g
  simp only [w33_17, w33_18, w33_21, w33_22, w33_24]
  refine ⟨kd_spn _ _, Wp_mono (c_X5 _ _ _ _ (kd_spn _ _) (by decide) (by decide)) ?_⟩
  rintro _ S2 I2 ⟨rfl, h2⟩
  simp only [zpu_U, w33_27]
  refine ⟨zG_kd2 g h2 hk (by decide), ?_⟩
  replace g := zG_blk g h2 (by decide) hk (by decide) (by decide) 1 (T1.1.length + 1)
  clear h2
  revert g
  generalize ss S2 a 1 (T1.1.length + 1) = T2
  intro g
  simp only [w33_30, w33_31, w33_34, w33_35, w33_37, w33_39]
  refine ⟨kd_spn _ _, Wp_mono (c_X8 _ _ _ _ _ (kd_spn _ _) (by decide) (by decide) (by decide) (by decide) (by decide) (by decide)) ?_⟩
  rintro _ S3 I3 ⟨rfl, h3⟩
  simp only [zpu_U, w33_42]
  refine ⟨zG_kd2 g h3 hk (by decide), ?_⟩
  replace g := zG_blk g h3 (by decide) hk (by decide) (by decide) 2 (T2.1.length + 1)
  clear h3
  revert g
  generalize ss S3 a 2 (T2.1.length + 1) = T3
  intro g
  simp only [w33_45]
  exact ⟨by trivial, zG_cast g (by decide) (by decide) (by decide)⟩
theorem c_X3 (a : Nat) (S : zS) (I : zM) (hk : kd S a = 5) : Wp 62 0 [vR a] [] S I (fun r S' _ => r = vU ∧ zG S S' 128 14 146) := by
  have g : zG S S 0 0 0 := zG_rf S
  simp only [w62_0, w62_1, w62_4, w62_5, w62_8, w62_9]
  refine ⟨kd_spn _ _, Wp_mono (c_X2 _ _ _ (kd_spn _ _)) ?_⟩
  rintro _ S1 I1 ⟨rfl, h1⟩
  simp only [zpu_U, w62_12]
  refine ⟨zG_kd2 g h1 hk (by decide), ?_⟩
  replace g := zG_blk g h1 (by decide) hk (by decide) (by decide) 0 (S.1.length + 1)
  clear h1
  revert g
  generalize ss S1 a 0 (S.1.length + 1) = T1
  intro g
  simp only [w62_15, w62_16, w62_19, w62_20]
  refine ⟨kd_spn _ _, Wp_mono (c_X2 _ _ _ (kd_spn _ _)) ?_⟩
  rintro _ S2 I2 ⟨rfl, h2⟩
  simp only [zpu_U, w62_23]
  refine ⟨zG_kd2 g h2 hk (by decide), ?_⟩
  replace g := zG_blk g h2 (by decide) hk (by decide) (by decide) 1 (T1.1.length + 1)
  clear h2
  revert g
  generalize ss S2 a 1 (T1.1.length + 1) = T2
  intro g
  simp only [w62_26, w62_27, w62_28]
  refine ⟨zG_kd g hk (by decide), ?_⟩
  simp only [w62_31]
  exact ⟨by trivial, zG_cast g (by decide) (by decide) (by decide)⟩
theorem c_X9 (a : Nat) (S : zS) (I : zM) (hk : kd S a = 11) : Wp 117 0 [vR a] [] S I (fun r S' _ => r = vU ∧ zG S S' 288 17 310) := by
  have g : zG S S 0 0 0 := zG_rf S
  simp only [w117_0, w117_1, w117_4, w117_5, w117_8, w117_9, w117_12]
  refine ⟨kd_spn _ _, Wp_mono (c_X5 _ _ _ _ (kd_spn _ _) (by decide) (by decide)) ?_⟩
  rintro _ S1 I1 ⟨rfl, h1⟩
  simp only [zpu_U, w117_15]
  refine ⟨zG_kd2 g h1 hk (by decide), ?_⟩
  replace g := zG_blk g h1 (by decide) hk (by decide) (by decide) 0 (S.1.length + 1)
  clear h1
  revert g
  generalize ss S1 a 0 (S.1.length + 1) = T1
  intro g
  simp only [w117_18, w117_19, w117_22, w117_23]
  refine ⟨kd_spn _ _, Wp_mono (c_X3 _ _ _ (kd_spn _ _)) ?_⟩
  rintro _ S2 I2 ⟨rfl, h2⟩
  simp only [zpu_U, w117_26]
  refine ⟨zG_kd2 g h2 hk (by decide), ?_⟩
  replace g := zG_blk g h2 (by decide) hk (by decide) (by decide) 1 (T1.1.length + 1)
  clear h2
  revert g
  generalize ss S2 a 1 (T1.1.length + 1) = T2
  intro g
  simp only [w117_29]
  exact ⟨by trivial, zG_cast g (by decide) (by decide) (by decide)⟩
theorem c_X1 (a : Nat) (S : zS) (I : zM) (hk : kd S a = 3) : Wp 22 0 [vR a] [] S I (fun r S' _ => r = vU ∧ zG S S' 226 10 241) := by
  have g : zG S S 0 0 0 := zG_rf S
  simp only [w22_0, w22_1, w22_4, w22_5, w22_8, w22_9, w22_11, w22_13]
  refine ⟨kd_spn _ _, Wp_mono (c_X8 _ _ _ _ _ (kd_spn _ _) (by decide) (by decide) (by decide) (by decide) (by decide) (by decide)) ?_⟩
  rintro _ S1 I1 ⟨rfl, h1⟩
  simp only [zpu_U, w22_16]
  refine ⟨zG_kd2 g h1 hk (by decide), ?_⟩
  replace g := zG_blk g h1 (by decide) hk (by decide) (by decide) 0 (S.1.length + 1)
  clear h1
  revert g
  generalize ss S1 a 0 (S.1.length + 1) = T1
  intro g
  simp only [w22_19, w22_20, w22_23, w22_24, w22_26, w22_28]
  refine ⟨kd_spn _ _, Wp_mono (c_X8 _ _ _ _ _ (kd_spn _ _) (by decide) (by decide) (by decide) (by decide) (by decide) (by decide)) ?_⟩
  rintro _ S2 I2 ⟨rfl, h2⟩
  simp only [zpu_U, w22_31]
  refine ⟨zG_kd2 g h2 hk (by decide), ?_⟩
  replace g := zG_blk g h2 (by decide) hk (by decide) (by decide) 1 (T1.1.length + 1)
  clear h2
  revert g
  generalize ss S2 a 1 (T1.1.length + 1) = T2
  intro g
  simp only [w22_34, w22_35, w22_38, w22_39, w22_41, w22_43]
  refine ⟨kd_spn _ _, Wp_mono (c_X8 _ _ _ _ _ (kd_spn _ _) (by decide) (by decide) (by decide) (by decide) (by decide) (by decide)) ?_⟩
  rintro _ S3 I3 ⟨rfl, h3⟩
  simp only [zpu_U, w22_46]
  refine ⟨zG_kd2 g h3 hk (by decide), ?_⟩
  replace g := zG_blk g h3 (by decide) hk (by decide) (by decide) 2 (T2.1.length + 1)
  clear h3
  revert g
  generalize ss S3 a 2 (T2.1.length + 1) = T3
  intro g
  simp only [w22_49, w22_50, w22_53, w22_54, w22_55, w22_57]
  refine ⟨kd_spn _ _, Wp_mono (c_X8 _ _ _ _ _ (kd_spn _ _) (by decide) (by decide) (by decide) (by decide) (by decide) (by decide)) ?_⟩
  rintro _ S4 I4 ⟨rfl, h4⟩
  simp only [zpu_U, w22_60]
  refine ⟨zG_kd2 g h4 hk (by decide), ?_⟩
  replace g := zG_blk g h4 (by decide) hk (by decide) (by decide) 3 (T3.1.length + 1)
  clear h4
  revert g
  generalize ss S4 a 3 (T3.1.length + 1) = T4
  intro g
  simp only [w22_63, w22_64, w22_67, w22_68, w22_69, w22_71]
  refine ⟨kd_spn _ _, Wp_mono (c_X8 _ _ _ _ _ (kd_spn _ _) (by decide) (by decide) (by decide) (by decide) (by decide) (by decide)) ?_⟩
  rintro _ S5 I5 ⟨rfl, h5⟩
  simp only [zpu_U, w22_74]
  refine ⟨zG_kd2 g h5 hk (by decide), ?_⟩
  replace g := zG_blk g h5 (by decide) hk (by decide) (by decide) 4 (T4.1.length + 1)
  clear h5
  revert g
  generalize ss S5 a 4 (T4.1.length + 1) = T5
  intro g
  simp only [w22_77]
  exact ⟨by trivial, zG_cast g (by decide) (by decide) (by decide)⟩
theorem c_X6 (a : Nat) (S : zS) (I : zM) (hk : kd S a = 8) : Wp 80 0 [vR a] [] S I (fun r S' _ => r = vU ∧ zG S S' 176 10 191) := by
  have g : zG S S 0 0 0 := zG_rf S
  simp only [w80_0, w80_1, w80_4, w80_5, w80_8, w80_9, w80_11, w80_12]
  refine ⟨kd_spn _ _, Wp_mono (c_X8 _ _ _ _ _ (kd_spn _ _) (by decide) (by decide) (by decide) (by decide) (by decide) (by decide)) ?_⟩
  rintro _ S1 I1 ⟨rfl, h1⟩
  simp only [zpu_U, w80_15]
  refine ⟨zG_kd2 g h1 hk (by decide), ?_⟩
  replace g := zG_blk g h1 (by decide) hk (by decide) (by decide) 0 (S.1.length + 1)
  clear h1
  revert g
  generalize ss S1 a 0 (S.1.length + 1) = T1
  intro g
  simp only [w80_18, w80_19, w80_22, w80_23, w80_24, w80_26]
  refine ⟨kd_spn _ _, Wp_mono (c_X8 _ _ _ _ _ (kd_spn _ _) (by decide) (by decide) (by decide) (by decide) (by decide) (by decide)) ?_⟩
  rintro _ S2 I2 ⟨rfl, h2⟩
  simp only [zpu_U, w80_29]
  refine ⟨zG_kd2 g h2 hk (by decide), ?_⟩
  replace g := zG_blk g h2 (by decide) hk (by decide) (by decide) 1 (T1.1.length + 1)
  clear h2
  revert g
  generalize ss S2 a 1 (T1.1.length + 1) = T2
  intro g
  simp only [w80_32, w80_33, w80_36, w80_37, w80_38, w80_40]
  refine ⟨kd_spn _ _, Wp_mono (c_X8 _ _ _ _ _ (kd_spn _ _) (by decide) (by decide) (by decide) (by decide) (by decide) (by decide)) ?_⟩
  rintro _ S3 I3 ⟨rfl, h3⟩
  simp only [zpu_U, w80_43]
  refine ⟨zG_kd2 g h3 hk (by decide), ?_⟩
  replace g := zG_blk g h3 (by decide) hk (by decide) (by decide) 2 (T2.1.length + 1)
  clear h3
  revert g
  generalize ss S3 a 2 (T2.1.length + 1) = T3
  intro g
  simp only [w80_46, w80_47, w80_50, w80_51, w80_53, w80_55]
  refine ⟨kd_spn _ _, Wp_mono (c_X8 _ _ _ _ _ (kd_spn _ _) (by decide) (by decide) (by decide) (by decide) (by decide) (by decide)) ?_⟩
  rintro _ S4 I4 ⟨rfl, h4⟩
  simp only [zpu_U, w80_58]
  refine ⟨zG_kd2 g h4 hk (by decide), ?_⟩
  replace g := zG_blk g h4 (by decide) hk (by decide) (by decide) 3 (T3.1.length + 1)
  clear h4
  revert g
  generalize ss S4 a 3 (T3.1.length + 1) = T4
  intro g
  simp only [w80_61, w80_62, w80_65, w80_66, w80_68, w80_70]
  refine ⟨kd_spn _ _, Wp_mono (c_X8 _ _ _ _ _ (kd_spn _ _) (by decide) (by decide) (by decide) (by decide) (by decide) (by decide)) ?_⟩
  rintro _ S5 I5 ⟨rfl, h5⟩
  simp only [zpu_U, w80_73]
  refine ⟨zG_kd2 g h5 hk (by decide), ?_⟩
  replace g := zG_blk g h5 (by decide) hk (by decide) (by decide) 4 (T4.1.length + 1)
  clear h5
  revert g
  generalize ss S5 a 4 (T4.1.length + 1) = T5
  intro g
  simp only [w80_76]
  exact ⟨by trivial, zG_cast g (by decide) (by decide) (by decide)⟩
theorem c_X0 (a : Nat) (S : zS) (I : zM) (hk : kd S a = 2) : Wp 0 0 [vR a] [] S I (fun r S' _ => r = vU ∧ zG S S' 976 4 982) := by
  have g : zG S S 0 0 0 := zG_rf S
  simp only [w0_0, w0_1, w0_4, w0_5, w0_8, w0_9, w0_11, w0_13]
  refine ⟨kd_spn _ _, Wp_mono (c_X8 _ _ _ _ _ (kd_spn _ _) (by decide) (by decide) (by decide) (by decide) (by decide) (by decide)) ?_⟩
  rintro _ S1 I1 ⟨rfl, h1⟩
  simp only [zpu_U, w0_16]
  refine ⟨zG_kd2 g h1 hk (by decide), ?_⟩
  replace g := zG_blk g h1 (by decide) hk (by decide) (by decide) 0 (S.1.length + 1)
  clear h1
  revert g
  generalize ss S1 a 0 (S.1.length + 1) = T1
  intro g
  simp only [w0_19, w0_20, w0_23, w0_24, w0_25, w0_27]
  refine ⟨kd_spn _ _, Wp_mono (c_X8 _ _ _ _ _ (kd_spn _ _) (by decide) (by decide) (by decide) (by decide) (by decide) (by decide)) ?_⟩
  rintro _ S2 I2 ⟨rfl, h2⟩
  simp only [zpu_U, w0_30]
  refine ⟨zG_kd2 g h2 hk (by decide), ?_⟩
  replace g := zG_blk g h2 (by decide) hk (by decide) (by decide) 1 (T1.1.length + 1)
  clear h2
  revert g
  generalize ss S2 a 1 (T1.1.length + 1) = T2
  intro g
  simp only [w0_33]
  exact ⟨by trivial, zG_cast g (by decide) (by decide) (by decide)⟩
theorem c_X10 (a : Nat) (z : Int) (S : zS) (I : zM) (hk : kd S a = 12) (hz : z = 0 ∨ z = 1) : Wp 131 0 [vR a, vI z] [] S I (fun r S' _ => r = vU ∧ zG S S' 288 12 300) := by
  have g : zG S S 0 0 0 := zG_rf S
  simp only [w131_0, w131_1, w131_4, w131_5, w131_8, w131_9, w131_11]
  refine ⟨kd_spn _ _, Wp_mono (c_X5 _ _ _ _ (kd_spn _ _) (by decide) (by decide)) ?_⟩
  rintro _ S1 I1 ⟨rfl, h1⟩
  simp only [zpu_U, w131_14]
  refine ⟨zG_kd2 g h1 hk (by decide), ?_⟩
  replace g := zG_blk g h1 (by decide) hk (by decide) (by decide) 1 (S.1.length + 1)
  clear h1
  revert g
  generalize ss S1 a 1 (S.1.length + 1) = T1
  intro g
  simp only [w131_17, w131_18, w131_21, w131_22, w131_24]
  refine ⟨kd_spn _ _, Wp_mono (c_X5 _ _ _ _ (kd_spn _ _) (by decide) (by decide)) ?_⟩
  rintro _ S2 I2 ⟨rfl, h2⟩
  simp only [zpu_U, w131_27]
  refine ⟨zG_kd2 g h2 hk (by decide), ?_⟩
  replace g := zG_blk g h2 (by decide) hk (by decide) (by decide) 2 (T1.1.length + 1)
  clear h2
  revert g
  generalize ss S2 a 2 (T1.1.length + 1) = T2
  intro g
  simp only [w131_30, w131_31, w131_34, w131_35, w131_37]
  refine ⟨kd_spn _ _, Wp_mono (c_X5 _ _ _ _ (kd_spn _ _) (by decide) (by decide)) ?_⟩
  rintro _ S3 I3 ⟨rfl, h3⟩
  simp only [zpu_U, w131_40]
  refine ⟨zG_kd2 g h3 hk (by decide), ?_⟩
  replace g := zG_blk g h3 (by decide) hk (by decide) (by decide) 3 (T2.1.length + 1)
  clear h3
  revert g
  generalize ss S3 a 3 (T2.1.length + 1) = T3
  intro g
  simp only [w131_43, w131_44, w131_47, w131_48, w131_50, w131_52]
  refine ⟨kd_spn _ _, Wp_mono (c_X8 _ _ _ _ _ (kd_spn _ _) (by decide) (by decide) (by decide) (by decide) (by decide) (by decide)) ?_⟩
  rintro _ S4 I4 ⟨rfl, h4⟩
  simp only [zpu_U, w131_55]
  refine ⟨zG_kd2 g h4 hk (by decide), ?_⟩
  replace g := zG_blk g h4 (by decide) hk (by decide) (by decide) 4 (T3.1.length + 1)
  clear h4
  revert g
  generalize ss S4 a 4 (T3.1.length + 1) = T4
  intro g
  simp only [w131_58, w131_59, w131_62, w131_63, w131_65, w131_66]
  refine ⟨kd_spn _ _, Wp_mono (c_X8 _ _ _ _ _ (kd_spn _ _) (by decide) (by decide) (by decide) (by decide) (by decide) (by decide)) ?_⟩
  rintro _ S5 I5 ⟨rfl, h5⟩
  simp only [zpu_U, w131_69]
  refine ⟨zG_kd2 g h5 hk (by decide), ?_⟩
  replace g := zG_blk g h5 (by decide) hk (by decide) (by decide) 5 (T4.1.length + 1)
  clear h5
  revert g
  generalize ss S5 a 5 (T4.1.length + 1) = T5
  intro g
  simp only [w131_72, w131_73, w131_76, w131_77, w131_78, w131_80]
  refine ⟨kd_spn _ _, Wp_mono (c_X8 _ _ _ _ _ (kd_spn _ _) (by decide) (by decide) (by decide) (by decide) (by decide) (by decide)) ?_⟩
  rintro _ S6 I6 ⟨rfl, h6⟩
  simp only [zpu_U, w131_83]
  refine ⟨zG_kd2 g h6 hk (by decide), ?_⟩
  replace g := zG_blk g h6 (by decide) hk (by decide) (by decide) 6 (T5.1.length + 1)
  clear h6
  revert g
  generalize ss S6 a 6 (T5.1.length + 1) = T6
  intro g
  simp only [w131_86, w131_87, w131_88]
  refine ⟨⟨zG_kd g hk (by decide), hz⟩, ?_⟩
  replace g := zG_fld g hk (by decide) (by decide) 0 z.toNat
  simp only [w131_91]
  exact ⟨by trivial, zG_cast g (by decide) (by decide) (by decide)⟩
theorem c_X4 (a : Nat) (S : zS) (I : zM) (hk : kd S a = 6) : Wp 70 0 [vR a] [] S I (fun r S' _ => r = vU ∧ zG S S' 248 17 270) := by
  have g : zG S S 0 0 0 := zG_rf S
  simp only [w70_0, w70_1, w70_4, w70_5, w70_8, w70_9]
  refine ⟨kd_spn _ _, Wp_mono (c_X3 _ _ _ (kd_spn _ _)) ?_⟩
  rintro _ S1 I1 ⟨rfl, h1⟩
  simp only [zpu_U, w70_12]
  refine ⟨zG_kd2 g h1 hk (by decide), ?_⟩
  replace g := zG_blk g h1 (by decide) hk (by decide) (by decide) 0 (S.1.length + 1)
  clear h1
  revert g
  generalize ss S1 a 0 (S.1.length + 1) = T1
  intro g
  simp only [w70_15, w70_16, w70_19, w70_20, w70_22]
  refine ⟨kd_spn _ _, Wp_mono (c_X5 _ _ _ _ (kd_spn _ _) (by decide) (by decide)) ?_⟩
  rintro _ S2 I2 ⟨rfl, h2⟩
  simp only [zpu_U, w70_25]
  refine ⟨zG_kd2 g h2 hk (by decide), ?_⟩
  replace g := zG_blk g h2 (by decide) hk (by decide) (by decide) 1 (T1.1.length + 1)
  clear h2
  revert g
  generalize ss S2 a 1 (T1.1.length + 1) = T2
  intro g
  simp only [w70_28]
  exact ⟨by trivial, zG_cast g (by decide) (by decide) (by decide)⟩
theorem c_X7 (a : Nat) (S : zS) (I : zM) (hk : kd S a = 9) : Wp 103 0 [vR a] [] S I (fun r S' _ => r = vU ∧ zG S S' 92 8 98) := by
  have g : zG S S 0 0 0 := zG_rf S
  simp only [w103_0, w103_1, w103_4, w103_5, w103_8, w103_9, w103_10]
  refine ⟨kd_spn _ _, Wp_mono (c_X5 _ _ _ _ (kd_spn _ _) (by decide) (by decide)) ?_⟩
  rintro _ S1 I1 ⟨rfl, h1⟩
  simp only [zpu_U, w103_13]
  refine ⟨zG_kd2 g h1 hk (by decide), ?_⟩
  replace g := zG_blk g h1 (by decide) hk (by decide) (by decide) 0 (S.1.length + 1)
  clear h1
  revert g
  generalize ss S1 a 0 (S.1.length + 1) = T1
  intro g
  simp only [w103_16, w103_17, w103_20, w103_21, w103_22]
  refine ⟨kd_spn _ _, Wp_mono (c_X5 _ _ _ _ (kd_spn _ _) (by decide) (by decide)) ?_⟩
  rintro _ S2 I2 ⟨rfl, h2⟩
  simp only [zpu_U, w103_25]
  refine ⟨zG_kd2 g h2 hk (by decide), ?_⟩
  replace g := zG_blk g h2 (by decide) hk (by decide) (by decide) 1 (T1.1.length + 1)
  clear h2
  revert g
  generalize ss S2 a 1 (T1.1.length + 1) = T2
  intro g
  simp only [w103_28, w103_29, w103_32, w103_33, w103_34]
  refine ⟨kd_spn _ _, Wp_mono (c_X5 _ _ _ _ (kd_spn _ _) (by decide) (by decide)) ?_⟩
  rintro _ S3 I3 ⟨rfl, h3⟩
  simp only [zpu_U, w103_37]
  refine ⟨zG_kd2 g h3 hk (by decide), ?_⟩
  replace g := zG_blk g h3 (by decide) hk (by decide) (by decide) 2 (T2.1.length + 1)
  clear h3
  revert g
  generalize ss S3 a 2 (T2.1.length + 1) = T3
  intro g
  simp only [w103_40, w103_41, w103_44, w103_45, w103_46, w103_48]
  refine ⟨kd_spn _ _, Wp_mono (c_X8 _ _ _ _ _ (kd_spn _ _) (by decide) (by decide) (by decide) (by decide) (by decide) (by decide)) ?_⟩
  rintro _ S4 I4 ⟨rfl, h4⟩
  simp only [zpu_U, w103_51]
  refine ⟨zG_kd2 g h4 hk (by decide), ?_⟩
  replace g := zG_blk g h4 (by decide) hk (by decide) (by decide) 3 (T3.1.length + 1)
  clear h4
  revert g
  generalize ss S4 a 3 (T3.1.length + 1) = T4
  intro g
  simp only [w103_54]
  exact ⟨by trivial, zG_cast g (by decide) (by decide) (by decide)⟩
theorem c_X11 (a : Nat) (S : zS) (I : zM) (hk : kd S a = 13) : Wp 150 0 [vR a] [] S I (fun r S' _ => r = vU ∧ zG S S' 3022 138 3237) := by
  have g : zG S S 0 0 0 := zG_rf S
  simp only [w150_0, w150_1, w150_4, w150_5, w150_8, w150_9]
  refine ⟨kd_spn _ _, Wp_mono (c_X9 _ _ _ (kd_spn _ _)) ?_⟩
  rintro _ S1 I1 ⟨rfl, h1⟩
  simp only [zpu_U, w150_12]
  refine ⟨zG_kd2 g h1 hk (by decide), ?_⟩
  replace g := zG_blk g h1 (by decide) hk (by decide) (by decide) 0 (S.1.length + 1)
  clear h1
  revert g
  generalize ss S1 a 0 (S.1.length + 1) = T1
  intro g
  simp only [w150_15, w150_16, w150_19, w150_20]
  refine ⟨kd_spn _ _, Wp_mono (c_X3 _ _ _ (kd_spn _ _)) ?_⟩
  rintro _ S2 I2 ⟨rfl, h2⟩
  simp only [zpu_U, w150_23]
  refine ⟨zG_kd2 g h2 hk (by decide), ?_⟩
  replace g := zG_blk g h2 (by decide) hk (by decide) (by decide) 1 (T1.1.length + 1)
  clear h2
  revert g
  generalize ss S2 a 1 (T1.1.length + 1) = T2
  intro g
  simp only [w150_26, w150_27, w150_30, w150_31]
  refine ⟨kd_spn _ _, Wp_mono (c_X2 _ _ _ (kd_spn _ _)) ?_⟩
  rintro _ S3 I3 ⟨rfl, h3⟩
  simp only [zpu_U, w150_34]
  refine ⟨zG_kd2 g h3 hk (by decide), ?_⟩
  replace g := zG_blk g h3 (by decide) hk (by decide) (by decide) 2 (T2.1.length + 1)
  clear h3
  revert g
  generalize ss S3 a 2 (T2.1.length + 1) = T3
  intro g
  simp only [w150_37, w150_38, w150_41, w150_42]
  refine ⟨kd_spn _ _, Wp_mono (c_X1 _ _ _ (kd_spn _ _)) ?_⟩
  rintro _ S4 I4 ⟨rfl, h4⟩
  simp only [zpu_U, w150_45]
  refine ⟨zG_kd2 g h4 hk (by decide), ?_⟩
  replace g := zG_blk g h4 (by decide) hk (by decide) (by decide) 3 (T3.1.length + 1)
  clear h4
  revert g
  generalize ss S4 a 3 (T3.1.length + 1) = T4
  intro g
  simp only [w150_48, w150_49, w150_52, w150_53]
  refine ⟨kd_spn _ _, Wp_mono (c_X6 _ _ _ (kd_spn _ _)) ?_⟩
  rintro _ S5 I5 ⟨rfl, h5⟩
  simp only [zpu_U, w150_56]
  refine ⟨zG_kd2 g h5 hk (by decide), ?_⟩
  replace g := zG_blk g h5 (by decide) hk (by decide) (by decide) 4 (T4.1.length + 1)
  clear h5
  revert g
  generalize ss S5 a 4 (T4.1.length + 1) = T5
  intro g
  simp only [w150_59, w150_60, w150_63, w150_64]
  refine ⟨kd_spn _ _, Wp_mono (c_X0 _ _ _ (kd_spn _ _)) ?_⟩
  rintro _ S6 I6 ⟨rfl, h6⟩
  simp only [zpu_U, w150_67]
  refine ⟨zG_kd2 g h6 hk (by decide), ?_⟩
  replace g := zG_blk g h6 (by decide) hk (by decide) (by decide) 5 (T5.1.length + 1)
  clear h6
  revert g
  generalize ss S6 a 5 (T5.1.length + 1) = T6
  intro g
  simp only [w150_70, w150_71, w150_74, w150_75, w150_76]
  refine ⟨kd_spn _ _, Wp_mono (c_X10 _ _ _ _ (kd_spn _ _) (by decide)) ?_⟩
  rintro _ S7 I7 ⟨rfl, h7⟩
  simp only [zpu_U, w150_79]
  refine ⟨zG_kd2 g h7 hk (by decide), ?_⟩
  replace g := zG_blk g h7 (by decide) hk (by decide) (by decide) 6 (T6.1.length + 1)
  clear h7
  revert g
  generalize ss S7 a 6 (T6.1.length + 1) = T7
  intro g
  simp only [w150_82, w150_83, w150_86, w150_87, w150_88]
  refine ⟨kd_spn _ _, Wp_mono (c_X10 _ _ _ _ (kd_spn _ _) (by decide)) ?_⟩
  rintro _ S8 I8 ⟨rfl, h8⟩
  simp only [zpu_U, w150_91]
  refine ⟨zG_kd2 g h8 hk (by decide), ?_⟩
  replace g := zG_blk g h8 (by decide) hk (by decide) (by decide) 7 (T7.1.length + 1)
  clear h8
  revert g
  generalize ss S8 a 7 (T7.1.length + 1) = T8
  intro g
  simp only [w150_94, w150_95, w150_98, w150_99]
  refine ⟨kd_spn _ _, Wp_mono (c_X4 _ _ _ (kd_spn _ _)) ?_⟩
  rintro _ S9 I9 ⟨rfl, h9⟩
  simp only [zpu_U, w150_102]
  refine ⟨zG_kd2 g h9 hk (by decide), ?_⟩
  replace g := zG_blk g h9 (by decide) hk (by decide) (by decide) 8 (T8.1.length + 1)
  clear h9
  revert g
  generalize ss S9 a 8 (T8.1.length + 1) = T9
  intro g
  simp only [w150_105, w150_106, w150_109, w150_110]
  refine ⟨kd_spn _ _, Wp_mono (c_X4 _ _ _ (kd_spn _ _)) ?_⟩
  rintro _ S10 I10 ⟨rfl, h10⟩
  simp only [zpu_U, w150_113]
  refine ⟨zG_kd2 g h10 hk (by decide), ?_⟩
  replace g := zG_blk g h10 (by decide) hk (by decide) (by decide) 9 (T9.1.length + 1)
  clear h10
  revert g
  generalize ss S10 a 9 (T9.1.length + 1) = T10
  intro g
  simp only [w150_116, w150_117, w150_120, w150_121]
  refine ⟨kd_spn _ _, Wp_mono (c_X7 _ _ _ (kd_spn _ _)) ?_⟩
  rintro _ S11 I11 ⟨rfl, h11⟩
  simp only [zpu_U, w150_124]
  refine ⟨zG_kd2 g h11 hk (by decide), ?_⟩
  replace g := zG_blk g h11 (by decide) hk (by decide) (by decide) 10 (T10.1.length + 1)
  clear h11
  revert g
  generalize ss S11 a 10 (T10.1.length + 1) = T11
  intro g
  simp only [w150_127]
  exact ⟨by trivial, zG_cast g (by decide) (by decide) (by decide)⟩
end CT
