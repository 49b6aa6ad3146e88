/-! ===== what the class's constructors make: at the least, by the elements of their arrays ===== -/
section CT
/-- the elements of all arrays -/
def zar (S : zS) : Nat := (S.1.map (fun q => if q.1 ≤ 1 then q.2.getD 0 0 else 0)).sum
theorem kd_sp (S : zS) (q : Nat × List Nat) (a : Nat) : kd (sp S q) a = if a = S.1.length then q.1 else kd S a := by
  unfold kd sp
  dsimp only
  by_cases h : a < S.1.length
  · rw [List.getElem?_append_left h, if_neg (by omega)]
  · by_cases e : a = S.1.length
    · subst e; simp
    · rw [if_neg e, List.getElem?_eq_none (by simp; omega), List.getElem?_eq_none (by omega)]
theorem kd_spn (S : zS) (q : Nat × List Nat) : kd (sp S q) S.1.length = q.1 := by rw [kd_sp, if_pos rfl]
theorem kd_ss (S : zS) (a j v a' : Nat) : kd (ss S a j v) a' = kd S a' := by
  unfold kd ss
  dsimp only
  rw [List.getElem?_modify]
  cases S.1[a']? with
  | none => rfl
  | some q => by_cases e : a = a' <;> simp [e]
theorem kd_lt {S : zS} {a : Nat} (h : kd S a < 900) : a < S.1.length := by
  obtain ⟨q, -, -, -, h4⟩ := kd_some rfl h
  exact h4
theorem zar_sp (S : zS) (q : Nat × List Nat) : zar (sp S q) = zar S + (if q.1 ≤ 1 then q.2.getD 0 0 else 0) := by
  unfold zar sp
  simp
theorem zar_mod (f : Nat × List Nat → Nat) (g : Nat × List Nat → Nat × List Nat) : ∀ (l : List (Nat × List Nat)) (a : Nat), (∀ q, l[a]? = some q → f (g q) = f q) → ((l.modify a g).map f).sum = (l.map f).sum := by
  intro l
  induction l with
  | nil => intro a h; cases a <;> rfl
  | cons x l ih =>
    intro a h
    cases a with
    | zero =>
      have := h x rfl
      simp [this]
    | succ a =>
      have := ih a (fun q hq => h q (by simpa using hq))
      simp [this]
theorem zar_ss {S : zS} {a : Nat} (h : 2 ≤ kd S a) (j v : Nat) : zar (ss S a j v) = zar S := by
  unfold zar ss
  refine zar_mod _ _ S.1 a (fun q hq => ?_)
  have h1 : kd S a = q.1 := by unfold kd; rw [hq]
  have h2 : ¬ q.1 ≤ 1 := by omega
  dsimp only
  rw [if_neg h2, if_neg h2]
theorem zsl_sp (S : zS) (q : Nat × List Nat) : zsl (sp S q) = zsl S + (if q.1 ≤ 1 then q.2.getD 0 0 else q.2.length) := by
  unfold zsl sp
  simp
theorem zsl_ss2 {S : zS} {a : Nat} (h : 2 ≤ kd S a) (j v : Nat) : zsl (ss S a j v) = zsl S := by
  unfold zsl ss
  refine zar_mod _ _ S.1 a (fun q hq => ?_)
  have h1 : kd S a = q.1 := by unfold kd; rw [hq]
  have h2 : ¬ q.1 ≤ 1 := by omega
  dsimp only
  rw [if_neg h2, if_neg h2, List.length_set]
theorem ln_sp (S : zS) (q : Nat × List Nat) : (sp S q).1.length = S.1.length + 1 := by simp [sp]
theorem ln_ss (S : zS) (a j v : Nat) : (ss S a j v).1.length = S.1.length := by simp [ss]
/-- from S to S': n elements of arrays, m cells, w slots more; what was there keeps its kind -/
def zG (S S' : zS) (n m w : Nat) : Prop := zar S' = zar S + n ∧ S'.1.length = S.1.length + m ∧ zsl S' = zsl S + w ∧ ∀ b, kd S b < 900 → kd S' b = kd S b
theorem zG_cast {S S' : zS} {n m w n' m' w' : Nat} (h : zG S S' n m w) (e1 : n = n') (e2 : m = m') (e3 : w = w') : zG S S' n' m' w' := by subst e1; subst e2; subst e3; exact h
theorem zG_rf (S : zS) : zG S S 0 0 0 := ⟨rfl, rfl, rfl, fun _ _ => rfl⟩
theorem zG_kd {S S' : zS} {n m w a t : Nat} (h : zG S S' n m w) (e : kd S a = t) (ht : t < 900) : kd S' a = t := by
  rw [h.2.2.2 a (by omega)]; exact e
theorem zG_kd2 {S S1 S2 : zS} {n m w n' m' w' a t : Nat} {q : Nat × List Nat} (h : zG S S1 n m w) (h2 : zG (sp S1 q) S2 n' m' w') (e : kd S a = t) (ht : t < 900) : kd S2 a = t := by
  have e1 := zG_kd h e ht
  have e2 : a ≠ S1.1.length := Nat.ne_of_lt (kd_lt (by omega))
  refine zG_kd h2 ?_ ht
  rw [kd_sp, if_neg e2]; exact e1
/-- a field's row or object is made, built and put down -/
theorem zG_blk {S S1 S2 : zS} {n m w n' m' w' a t : Nat} {q : Nat × List Nat} (h : zG S S1 n m w) (h2 : zG (sp S1 q) S2 n' m' w') (hq : 2 ≤ q.1) (e : kd S a = t) (ht2 : 2 ≤ t) (ht : t < 900) (j v : Nat) : zG S (ss S2 a j v) (n + n') (m + 1 + m') (w + q.2.length + w') := by
  have e2 := zG_kd2 h h2 e ht
  have hq1 : ¬ q.1 ≤ 1 := by omega
  obtain ⟨a1, a2, a3, a4⟩ := h
  obtain ⟨b1, b2, b3, b4⟩ := h2
  rw [zar_sp, if_neg hq1] at b1
  rw [ln_sp] at b2
  rw [zsl_sp, if_neg hq1] at b3
  refine ⟨?_, ?_, ?_, fun b hb => ?_⟩
  · rw [zar_ss (by omega)]; omega
  · rw [ln_ss]; omega
  · rw [zsl_ss2 (by omega)]; omega
  · have c1 : kd S1 b = kd S b := a4 b hb
    have c2 : b < S1.1.length := kd_lt (by omega)
    have c3 := b4 b (by rw [kd_sp, if_neg (Nat.ne_of_lt c2)]; omega)
    rw [kd_ss, c3, kd_sp, if_neg (Nat.ne_of_lt c2), c1]
theorem zG_fld {S S1 : zS} {n m w a t : Nat} (h : zG S S1 n m w) (e : kd S a = t) (ht2 : 2 ≤ t) (ht : t < 900) (j v : Nat) : zG S (ss S1 a j v) n m w := by
  have e2 := zG_kd h e ht
  obtain ⟨a1, a2, a3, a4⟩ := h
  refine ⟨?_, ?_, ?_, fun b hb => ?_⟩
  · rw [zar_ss (by omega)]; exact a1
  · rw [ln_ss]; exact a2
  · rw [zsl_ss2 (by omega)]; exact a3
  · rw [kd_ss]; exact a4 b hb

theorem c_within (v lo hi : Int) (S : zS) (I : zM) (Q : zV → zS → zM → Prop) (h1 : lo ≤ v) (h2 : v ≤ hi) : Wp 12 0 [vI v, vI lo, vI hi] [] S I Q ↔ Q (vI 1) S I := by
  have e1 : ¬ v < lo := by omega
  have e2 : ¬ hi < v := by omega
  simp only [w12_0, w12_1, w12_2, w12_5, w12_6, w12_7, w12_10, w12_11, w12_14, w12_15, if_neg e1, if_neg e2]
  exact ⟨fun h => h.2, fun h => ⟨Or.inr (by trivial), h⟩⟩
theorem c_X5 (a : Nat) (x : Int) (S : zS) (I : zM) (hk : kd S a = 7) (h1 : 0 < x) (h2 : x ≤ 256) : Wp 5 0 [vR a, vI x] [] S I (fun r S' _ => r = vU ∧ zG S S' x.toNat 1 x.toNat) := by
  have e2 : ¬ 256 < x := by omega
  have ha : a < S.1.length := kd_lt (by omega)
  simp only [w5_0, w5_1, w5_4, w5_5, w5_6, w5_9, w5_10, w5_13, w5_16, w5_17, w5_20, w5_21, w5_23, w5_26, if_pos h1, if_neg e2]
  have k1 : kd (sp S (0, [x.toNat])) a = 7 := by rw [kd_sp, if_neg (Nat.ne_of_lt ha)]; exact hk
  refine ⟨⟨by omega, by omega⟩, k1, (by trivial), ?_, ?_, ?_, fun b hb => ?_⟩
  · rw [zar_ss (by omega), zar_sp]; rfl
  · rw [ln_ss, ln_sp]
  · rw [zsl_ss2 (by omega), zsl_sp]; rfl
  · rw [kd_ss, kd_sp, if_neg (Nat.ne_of_lt (kd_lt hb))]
theorem c_X8 (a : Nat) (x y : Int) (S : zS) (I : zM) (hk : kd S a = 10) (h1 : 1 ≤ x) (h2 : x ≤ 256) (h3 : 1 ≤ y) (h4 : y ≤ 256) (h5 : 0 ≤ x * y) (h6 : x * y ≤ 1000000) : Wp 8 0 [vR a, vI x, vI y, vU] [] S I (fun r S' _ => r = vU ∧ zG S S' (x * y).toNat 1 (x * y).toNat) := by
  have ha : a < S.1.length := kd_lt (by omega)
  have e0 : ¬ (1 : Int) = 0 := by decide
  have hk2 : ∀ j v, kd (ss S a j v) a = 10 := fun j v => by rw [kd_ss]; exact hk
  simp only [w8_0, w8_1, w8_4, w8_5, w8_6, w8_9, w8_12, w8_15, w8_16, w8_17, w8_20, w8_23, w8_26, w8_27, w8_30, w8_31, w8_32, w8_33, w8_34, w8_37, w8_38, w8_41, w8_42, w8_45, w8_46, w8_47, w8_50, w8_51, w8_54, w8_55, w8_58, w8_59, w8_60, w8_63, w8_64, w8_65, w8_66, w8_69, w8_70, w8_72, w8_75, c_within x 1 256 _ _ _ h1 h2, c_within y 1 256 _ _ _ h3 h4, zpu_I, if_neg e0]
  have l2 : (ss (ss S a 0 x.toNat) a 1 y.toNat).1.length = S.1.length := by rw [ln_ss, ln_ss]
  have k2 : kd (ss (ss S a 0 x.toNat) a 1 y.toNat) a = 10 := by rw [kd_ss, kd_ss]; exact hk
  have k3 : kd (sp (ss (ss S a 0 x.toNat) a 1 y.toNat) (0, [(x * y).toNat])) a = 10 := by rw [kd_sp, if_neg (by omega)]; exact k2
  refine ⟨⟨hk, by omega⟩, ⟨by rw [kd_ss]; exact hk, by omega⟩, ⟨by omega, by omega⟩, ⟨h5, h6⟩, k3, (by trivial), ?_, ?_, ?_, fun b hb => ?_⟩
  · rw [zar_ss (by omega), zar_sp, zar_ss (by rw [kd_ss]; omega), zar_ss (by omega)]; rfl
  · rw [ln_ss, ln_sp, ln_ss, ln_ss]
  · rw [zsl_ss2 (by omega), zsl_sp, zsl_ss2 (by rw [kd_ss]; omega), zsl_ss2 (by omega)]; rfl
  · have := kd_lt hb
    rw [kd_ss, kd_sp, if_neg (by omega), kd_ss, kd_ss]

theorem c_X2 (a : Nat) (S : zS) (I : zM) (hk : kd S a = 4) : Wp 2 0 [vR a] [] S I (fun r S' _ => r = vU ∧ zG S S' 64 6 69) := by
  have g : zG S S 0 0 0 := zG_rf S
  simp only [w2_0, w2_1, w2_4, w2_5, w2_8, w2_9, w2_11]
  refine ⟨kd_spn _ _, Wp_mono (c_X5 _ _ _ _ (kd_spn _ _) (by decide) (by decide)) ?_⟩
  rintro _ S1 I1 ⟨rfl, h1⟩
  simp only [zpu_U, w2_14]
  refine ⟨zG_kd2 g h1 hk (by decide), ?_⟩
  replace g := zG_blk g h1 (by decide) hk (by decide) (by decide) 0 (S.1.length + 1)
  clear h1
  revert g
  generalize ss S1 a 0 (S.1.length + 1) = T1
  intro g
  simp only [w2_17, w2_18, w2_21, w2_22, w2_24]
  refine ⟨kd_spn _ _, Wp_mono (c_X5 _ _ _ _ (kd_spn _ _) (by decide) (by decide)) ?_⟩
  rintro _ S2 I2 ⟨rfl, h2⟩
  simp only [zpu_U, w2_27]
  refine ⟨zG_kd2 g h2 hk (by decide), ?_⟩
  replace g := zG_blk g h2 (by decide) hk (by decide) (by decide) 1 (T1.1.length + 1)
  clear h2
  revert g
  generalize ss S2 a 1 (T1.1.length + 1) = T2
  intro g
  simp only [w2_30, w2_31, w2_34, w2_35, w2_37, w2_39]
  refine ⟨kd_spn _ _, Wp_mono (c_X8 _ _ _ _ _ (kd_spn _ _) (by decide) (by decide) (by decide) (by decide) (by decide) (by decide)) ?_⟩
  rintro _ S3 I3 ⟨rfl, h3⟩
  simp only [zpu_U, w2_42]
  refine ⟨zG_kd2 g h3 hk (by decide), ?_⟩
  replace g := zG_blk g h3 (by decide) hk (by decide) (by decide) 2 (T2.1.length + 1)
  clear h3
  revert g
  generalize ss S3 a 2 (T2.1.length + 1) = T3
  intro g
  simp only [w2_45]
  exact ⟨by trivial, zG_cast g (by decide) (by decide) (by decide)⟩
theorem c_X3 (a : Nat) (S : zS) (I : zM) (hk : kd S a = 5) : Wp 3 0 [vR a] [] S I (fun r S' _ => r = vU ∧ zG S S' 128 14 146) := by
  have g : zG S S 0 0 0 := zG_rf S
  simp only [w3_0, w3_1, w3_4, w3_5, w3_8, w3_9]
  refine ⟨kd_spn _ _, Wp_mono (c_X2 _ _ _ (kd_spn _ _)) ?_⟩
  rintro _ S1 I1 ⟨rfl, h1⟩
  simp only [zpu_U, w3_12]
  refine ⟨zG_kd2 g h1 hk (by decide), ?_⟩
  replace g := zG_blk g h1 (by decide) hk (by decide) (by decide) 0 (S.1.length + 1)
  clear h1
  revert g
  generalize ss S1 a 0 (S.1.length + 1) = T1
  intro g
  simp only [w3_15, w3_16, w3_19, w3_20]
  refine ⟨kd_spn _ _, Wp_mono (c_X2 _ _ _ (kd_spn _ _)) ?_⟩
  rintro _ S2 I2 ⟨rfl, h2⟩
  simp only [zpu_U, w3_23]
  refine ⟨zG_kd2 g h2 hk (by decide), ?_⟩
  replace g := zG_blk g h2 (by decide) hk (by decide) (by decide) 1 (T1.1.length + 1)
  clear h2
  revert g
  generalize ss S2 a 1 (T1.1.length + 1) = T2
  intro g
  simp only [w3_26, w3_27, w3_28]
  refine ⟨zG_kd g hk (by decide), ?_⟩
  simp only [w3_31]
  exact ⟨by trivial, zG_cast g (by decide) (by decide) (by decide)⟩
theorem c_X9 (a : Nat) (S : zS) (I : zM) (hk : kd S a = 11) : Wp 9 0 [vR a] [] S I (fun r S' _ => r = vU ∧ zG S S' 288 17 310) := by
  have g : zG S S 0 0 0 := zG_rf S
  simp only [w9_0, w9_1, w9_4, w9_5, w9_8, w9_9, w9_12]
  refine ⟨kd_spn _ _, Wp_mono (c_X5 _ _ _ _ (kd_spn _ _) (by decide) (by decide)) ?_⟩
  rintro _ S1 I1 ⟨rfl, h1⟩
  simp only [zpu_U, w9_15]
  refine ⟨zG_kd2 g h1 hk (by decide), ?_⟩
  replace g := zG_blk g h1 (by decide) hk (by decide) (by decide) 0 (S.1.length + 1)
  clear h1
  revert g
  generalize ss S1 a 0 (S.1.length + 1) = T1
  intro g
  simp only [w9_18, w9_19, w9_22, w9_23]
  refine ⟨kd_spn _ _, Wp_mono (c_X3 _ _ _ (kd_spn _ _)) ?_⟩
  rintro _ S2 I2 ⟨rfl, h2⟩
  simp only [zpu_U, w9_26]
  refine ⟨zG_kd2 g h2 hk (by decide), ?_⟩
  replace g := zG_blk g h2 (by decide) hk (by decide) (by decide) 1 (T1.1.length + 1)
  clear h2
  revert g
  generalize ss S2 a 1 (T1.1.length + 1) = T2
  intro g
  simp only [w9_29]
  exact ⟨by trivial, zG_cast g (by decide) (by decide) (by decide)⟩
theorem c_X1 (a : Nat) (S : zS) (I : zM) (hk : kd S a = 3) : Wp 1 0 [vR a] [] S I (fun r S' _ => r = vU ∧ zG S S' 226 10 241) := by
  have g : zG S S 0 0 0 := zG_rf S
  simp only [w1_0, w1_1, w1_4, w1_5, w1_8, w1_9, w1_11, w1_13]
  refine ⟨kd_spn _ _, Wp_mono (c_X8 _ _ _ _ _ (kd_spn _ _) (by decide) (by decide) (by decide) (by decide) (by decide) (by decide)) ?_⟩
  rintro _ S1 I1 ⟨rfl, h1⟩
  simp only [zpu_U, w1_16]
  refine ⟨zG_kd2 g h1 hk (by decide), ?_⟩
  replace g := zG_blk g h1 (by decide) hk (by decide) (by decide) 0 (S.1.length + 1)
  clear h1
  revert g
  generalize ss S1 a 0 (S.1.length + 1) = T1
  intro g
  simp only [w1_19, w1_20, w1_23, w1_24, w1_26, w1_28]
  refine ⟨kd_spn _ _, Wp_mono (c_X8 _ _ _ _ _ (kd_spn _ _) (by decide) (by decide) (by decide) (by decide) (by decide) (by decide)) ?_⟩
  rintro _ S2 I2 ⟨rfl, h2⟩
  simp only [zpu_U, w1_31]
  refine ⟨zG_kd2 g h2 hk (by decide), ?_⟩
  replace g := zG_blk g h2 (by decide) hk (by decide) (by decide) 1 (T1.1.length + 1)
  clear h2
  revert g
  generalize ss S2 a 1 (T1.1.length + 1) = T2
  intro g
  simp only [w1_34, w1_35, w1_38, w1_39, w1_41, w1_43]
  refine ⟨kd_spn _ _, Wp_mono (c_X8 _ _ _ _ _ (kd_spn _ _) (by decide) (by decide) (by decide) (by decide) (by decide) (by decide)) ?_⟩
  rintro _ S3 I3 ⟨rfl, h3⟩
  simp only [zpu_U, w1_46]
  refine ⟨zG_kd2 g h3 hk (by decide), ?_⟩
  replace g := zG_blk g h3 (by decide) hk (by decide) (by decide) 2 (T2.1.length + 1)
  clear h3
  revert g
  generalize ss S3 a 2 (T2.1.length + 1) = T3
  intro g
  simp only [w1_49, w1_50, w1_53, w1_54, w1_55, w1_57]
  refine ⟨kd_spn _ _, Wp_mono (c_X8 _ _ _ _ _ (kd_spn _ _) (by decide) (by decide) (by decide) (by decide) (by decide) (by decide)) ?_⟩
  rintro _ S4 I4 ⟨rfl, h4⟩
  simp only [zpu_U, w1_60]
  refine ⟨zG_kd2 g h4 hk (by decide), ?_⟩
  replace g := zG_blk g h4 (by decide) hk (by decide) (by decide) 3 (T3.1.length + 1)
  clear h4
  revert g
  generalize ss S4 a 3 (T3.1.length + 1) = T4
  intro g
  simp only [w1_63, w1_64, w1_67, w1_68, w1_69, w1_71]
  refine ⟨kd_spn _ _, Wp_mono (c_X8 _ _ _ _ _ (kd_spn _ _) (by decide) (by decide) (by decide) (by decide) (by decide) (by decide)) ?_⟩
  rintro _ S5 I5 ⟨rfl, h5⟩
  simp only [zpu_U, w1_74]
  refine ⟨zG_kd2 g h5 hk (by decide), ?_⟩
  replace g := zG_blk g h5 (by decide) hk (by decide) (by decide) 4 (T4.1.length + 1)
  clear h5
  revert g
  generalize ss S5 a 4 (T4.1.length + 1) = T5
  intro g
  simp only [w1_77]
  exact ⟨by trivial, zG_cast g (by decide) (by decide) (by decide)⟩
theorem c_X6 (a : Nat) (S : zS) (I : zM) (hk : kd S a = 8) : Wp 6 0 [vR a] [] S I (fun r S' _ => r = vU ∧ zG S S' 176 10 191) := by
  have g : zG S S 0 0 0 := zG_rf S
  simp only [w6_0, w6_1, w6_4, w6_5, w6_8, w6_9, w6_11, w6_12]
  refine ⟨kd_spn _ _, Wp_mono (c_X8 _ _ _ _ _ (kd_spn _ _) (by decide) (by decide) (by decide) (by decide) (by decide) (by decide)) ?_⟩
  rintro _ S1 I1 ⟨rfl, h1⟩
  simp only [zpu_U, w6_15]
  refine ⟨zG_kd2 g h1 hk (by decide), ?_⟩
  replace g := zG_blk g h1 (by decide) hk (by decide) (by decide) 0 (S.1.length + 1)
  clear h1
  revert g
  generalize ss S1 a 0 (S.1.length + 1) = T1
  intro g
  simp only [w6_18, w6_19, w6_22, w6_23, w6_24, w6_26]
  refine ⟨kd_spn _ _, Wp_mono (c_X8 _ _ _ _ _ (kd_spn _ _) (by decide) (by decide) (by decide) (by decide) (by decide) (by decide)) ?_⟩
  rintro _ S2 I2 ⟨rfl, h2⟩
  simp only [zpu_U, w6_29]
  refine ⟨zG_kd2 g h2 hk (by decide), ?_⟩
  replace g := zG_blk g h2 (by decide) hk (by decide) (by decide) 1 (T1.1.length + 1)
  clear h2
  revert g
  generalize ss S2 a 1 (T1.1.length + 1) = T2
  intro g
  simp only [w6_32, w6_33, w6_36, w6_37, w6_38, w6_40]
  refine ⟨kd_spn _ _, Wp_mono (c_X8 _ _ _ _ _ (kd_spn _ _) (by decide) (by decide) (by decide) (by decide) (by decide) (by decide)) ?_⟩
  rintro _ S3 I3 ⟨rfl, h3⟩
  simp only [zpu_U, w6_43]
  refine ⟨zG_kd2 g h3 hk (by decide), ?_⟩
  replace g := zG_blk g h3 (by decide) hk (by decide) (by decide) 2 (T2.1.length + 1)
  clear h3
  revert g
  generalize ss S3 a 2 (T2.1.length + 1) = T3
  intro g
  simp only [w6_46, w6_47, w6_50, w6_51, w6_53, w6_55]
  refine ⟨kd_spn _ _, Wp_mono (c_X8 _ _ _ _ _ (kd_spn _ _) (by decide) (by decide) (by decide) (by decide) (by decide) (by decide)) ?_⟩
  rintro _ S4 I4 ⟨rfl, h4⟩
  simp only [zpu_U, w6_58]
  refine ⟨zG_kd2 g h4 hk (by decide), ?_⟩
  replace g := zG_blk g h4 (by decide) hk (by decide) (by decide) 3 (T3.1.length + 1)
  clear h4
  revert g
  generalize ss S4 a 3 (T3.1.length + 1) = T4
  intro g
  simp only [w6_61, w6_62, w6_65, w6_66, w6_68, w6_70]
  refine ⟨kd_spn _ _, Wp_mono (c_X8 _ _ _ _ _ (kd_spn _ _) (by decide) (by decide) (by decide) (by decide) (by decide) (by decide)) ?_⟩
  rintro _ S5 I5 ⟨rfl, h5⟩
  simp only [zpu_U, w6_73]
  refine ⟨zG_kd2 g h5 hk (by decide), ?_⟩
  replace g := zG_blk g h5 (by decide) hk (by decide) (by decide) 4 (T4.1.length + 1)
  clear h5
  revert g
  generalize ss S5 a 4 (T4.1.length + 1) = T5
  intro g
  simp only [w6_76]
  exact ⟨by trivial, zG_cast g (by decide) (by decide) (by decide)⟩
theorem c_X0 (a : Nat) (S : zS) (I : zM) (hk : kd S a = 2) : Wp 0 0 [vR a] [] S I (fun r S' _ => r = vU ∧ zG S S' 976 4 982) := by
  have g : zG S S 0 0 0 := zG_rf S
  simp only [w0_0, w0_1, w0_4, w0_5, w0_8, w0_9, w0_11, w0_13]
  refine ⟨kd_spn _ _, Wp_mono (c_X8 _ _ _ _ _ (kd_spn _ _) (by decide) (by decide) (by decide) (by decide) (by decide) (by decide)) ?_⟩
  rintro _ S1 I1 ⟨rfl, h1⟩
  simp only [zpu_U, w0_16]
  refine ⟨zG_kd2 g h1 hk (by decide), ?_⟩
  replace g := zG_blk g h1 (by decide) hk (by decide) (by decide) 0 (S.1.length + 1)
  clear h1
  revert g
  generalize ss S1 a 0 (S.1.length + 1) = T1
  intro g
  simp only [w0_19, w0_20, w0_23, w0_24, w0_25, w0_27]
  refine ⟨kd_spn _ _, Wp_mono (c_X8 _ _ _ _ _ (kd_spn _ _) (by decide) (by decide) (by decide) (by decide) (by decide) (by decide)) ?_⟩
  rintro _ S2 I2 ⟨rfl, h2⟩
  simp only [zpu_U, w0_30]
  refine ⟨zG_kd2 g h2 hk (by decide), ?_⟩
  replace g := zG_blk g h2 (by decide) hk (by decide) (by decide) 1 (T1.1.length + 1)
  clear h2
  revert g
  generalize ss S2 a 1 (T1.1.length + 1) = T2
  intro g
  simp only [w0_33]
  exact ⟨by trivial, zG_cast g (by decide) (by decide) (by decide)⟩
theorem c_X10 (a : Nat) (z : Int) (S : zS) (I : zM) (hk : kd S a = 12) (hz : z = 0 ∨ z = 1) : Wp 10 0 [vR a, vI z] [] S I (fun r S' _ => r = vU ∧ zG S S' 288 12 300) := by
  have g : zG S S 0 0 0 := zG_rf S
  simp only [w10_0, w10_1, w10_4, w10_5, w10_8, w10_9, w10_11]
  refine ⟨kd_spn _ _, Wp_mono (c_X5 _ _ _ _ (kd_spn _ _) (by decide) (by decide)) ?_⟩
  rintro _ S1 I1 ⟨rfl, h1⟩
  simp only [zpu_U, w10_14]
  refine ⟨zG_kd2 g h1 hk (by decide), ?_⟩
  replace g := zG_blk g h1 (by decide) hk (by decide) (by decide) 1 (S.1.length + 1)
  clear h1
  revert g
  generalize ss S1 a 1 (S.1.length + 1) = T1
  intro g
  simp only [w10_17, w10_18, w10_21, w10_22, w10_24]
  refine ⟨kd_spn _ _, Wp_mono (c_X5 _ _ _ _ (kd_spn _ _) (by decide) (by decide)) ?_⟩
  rintro _ S2 I2 ⟨rfl, h2⟩
  simp only [zpu_U, w10_27]
  refine ⟨zG_kd2 g h2 hk (by decide), ?_⟩
  replace g := zG_blk g h2 (by decide) hk (by decide) (by decide) 2 (T1.1.length + 1)
  clear h2
  revert g
  generalize ss S2 a 2 (T1.1.length + 1) = T2
  intro g
  simp only [w10_30, w10_31, w10_34, w10_35, w10_37]
  refine ⟨kd_spn _ _, Wp_mono (c_X5 _ _ _ _ (kd_spn _ _) (by decide) (by decide)) ?_⟩
  rintro _ S3 I3 ⟨rfl, h3⟩
  simp only [zpu_U, w10_40]
  refine ⟨zG_kd2 g h3 hk (by decide), ?_⟩
  replace g := zG_blk g h3 (by decide) hk (by decide) (by decide) 3 (T2.1.length + 1)
  clear h3
  revert g
  generalize ss S3 a 3 (T2.1.length + 1) = T3
  intro g
  simp only [w10_43, w10_44, w10_47, w10_48, w10_50, w10_52]
  refine ⟨kd_spn _ _, Wp_mono (c_X8 _ _ _ _ _ (kd_spn _ _) (by decide) (by decide) (by decide) (by decide) (by decide) (by decide)) ?_⟩
  rintro _ S4 I4 ⟨rfl, h4⟩
  simp only [zpu_U, w10_55]
  refine ⟨zG_kd2 g h4 hk (by decide), ?_⟩
  replace g := zG_blk g h4 (by decide) hk (by decide) (by decide) 4 (T3.1.length + 1)
  clear h4
  revert g
  generalize ss S4 a 4 (T3.1.length + 1) = T4
  intro g
  simp only [w10_58, w10_59, w10_62, w10_63, w10_65, w10_66]
  refine ⟨kd_spn _ _, Wp_mono (c_X8 _ _ _ _ _ (kd_spn _ _) (by decide) (by decide) (by decide) (by decide) (by decide) (by decide)) ?_⟩
  rintro _ S5 I5 ⟨rfl, h5⟩
  simp only [zpu_U, w10_69]
  refine ⟨zG_kd2 g h5 hk (by decide), ?_⟩
  replace g := zG_blk g h5 (by decide) hk (by decide) (by decide) 5 (T4.1.length + 1)
  clear h5
  revert g
  generalize ss S5 a 5 (T4.1.length + 1) = T5
  intro g
  simp only [w10_72, w10_73, w10_76, w10_77, w10_78, w10_80]
  refine ⟨kd_spn _ _, Wp_mono (c_X8 _ _ _ _ _ (kd_spn _ _) (by decide) (by decide) (by decide) (by decide) (by decide) (by decide)) ?_⟩
  rintro _ S6 I6 ⟨rfl, h6⟩
  simp only [zpu_U, w10_83]
  refine ⟨zG_kd2 g h6 hk (by decide), ?_⟩
  replace g := zG_blk g h6 (by decide) hk (by decide) (by decide) 6 (T5.1.length + 1)
  clear h6
  revert g
  generalize ss S6 a 6 (T5.1.length + 1) = T6
  intro g
  simp only [w10_86, w10_87, w10_88]
  refine ⟨⟨zG_kd g hk (by decide), hz⟩, ?_⟩
  replace g := zG_fld g hk (by decide) (by decide) 0 z.toNat
  simp only [w10_91]
  exact ⟨by trivial, zG_cast g (by decide) (by decide) (by decide)⟩
theorem c_X4 (a : Nat) (S : zS) (I : zM) (hk : kd S a = 6) : Wp 4 0 [vR a] [] S I (fun r S' _ => r = vU ∧ zG S S' 248 17 270) := by
  have g : zG S S 0 0 0 := zG_rf S
  simp only [w4_0, w4_1, w4_4, w4_5, w4_8, w4_9]
  refine ⟨kd_spn _ _, Wp_mono (c_X3 _ _ _ (kd_spn _ _)) ?_⟩
  rintro _ S1 I1 ⟨rfl, h1⟩
  simp only [zpu_U, w4_12]
  refine ⟨zG_kd2 g h1 hk (by decide), ?_⟩
  replace g := zG_blk g h1 (by decide) hk (by decide) (by decide) 0 (S.1.length + 1)
  clear h1
  revert g
  generalize ss S1 a 0 (S.1.length + 1) = T1
  intro g
  simp only [w4_15, w4_16, w4_19, w4_20, w4_22]
  refine ⟨kd_spn _ _, Wp_mono (c_X5 _ _ _ _ (kd_spn _ _) (by decide) (by decide)) ?_⟩
  rintro _ S2 I2 ⟨rfl, h2⟩
  simp only [zpu_U, w4_25]
  refine ⟨zG_kd2 g h2 hk (by decide), ?_⟩
  replace g := zG_blk g h2 (by decide) hk (by decide) (by decide) 1 (T1.1.length + 1)
  clear h2
  revert g
  generalize ss S2 a 1 (T1.1.length + 1) = T2
  intro g
  simp only [w4_28]
  exact ⟨by trivial, zG_cast g (by decide) (by decide) (by decide)⟩
theorem c_X7 (a : Nat) (S : zS) (I : zM) (hk : kd S a = 9) : Wp 7 0 [vR a] [] S I (fun r S' _ => r = vU ∧ zG S S' 92 8 98) := by
  have g : zG S S 0 0 0 := zG_rf S
  simp only [w7_0, w7_1, w7_4, w7_5, w7_8, w7_9, w7_10]
  refine ⟨kd_spn _ _, Wp_mono (c_X5 _ _ _ _ (kd_spn _ _) (by decide) (by decide)) ?_⟩
  rintro _ S1 I1 ⟨rfl, h1⟩
  simp only [zpu_U, w7_13]
  refine ⟨zG_kd2 g h1 hk (by decide), ?_⟩
  replace g := zG_blk g h1 (by decide) hk (by decide) (by decide) 0 (S.1.length + 1)
  clear h1
  revert g
  generalize ss S1 a 0 (S.1.length + 1) = T1
  intro g
  simp only [w7_16, w7_17, w7_20, w7_21, w7_22]
  refine ⟨kd_spn _ _, Wp_mono (c_X5 _ _ _ _ (kd_spn _ _) (by decide) (by decide)) ?_⟩
  rintro _ S2 I2 ⟨rfl, h2⟩
  simp only [zpu_U, w7_25]
  refine ⟨zG_kd2 g h2 hk (by decide), ?_⟩
  replace g := zG_blk g h2 (by decide) hk (by decide) (by decide) 1 (T1.1.length + 1)
  clear h2
  revert g
  generalize ss S2 a 1 (T1.1.length + 1) = T2
  intro g
  simp only [w7_28, w7_29, w7_32, w7_33, w7_34]
  refine ⟨kd_spn _ _, Wp_mono (c_X5 _ _ _ _ (kd_spn _ _) (by decide) (by decide)) ?_⟩
  rintro _ S3 I3 ⟨rfl, h3⟩
  simp only [zpu_U, w7_37]
  refine ⟨zG_kd2 g h3 hk (by decide), ?_⟩
  replace g := zG_blk g h3 (by decide) hk (by decide) (by decide) 2 (T2.1.length + 1)
  clear h3
  revert g
  generalize ss S3 a 2 (T2.1.length + 1) = T3
  intro g
  simp only [w7_40, w7_41, w7_44, w7_45, w7_46, w7_48]
  refine ⟨kd_spn _ _, Wp_mono (c_X8 _ _ _ _ _ (kd_spn _ _) (by decide) (by decide) (by decide) (by decide) (by decide) (by decide)) ?_⟩
  rintro _ S4 I4 ⟨rfl, h4⟩
  simp only [zpu_U, w7_51]
  refine ⟨zG_kd2 g h4 hk (by decide), ?_⟩
  replace g := zG_blk g h4 (by decide) hk (by decide) (by decide) 3 (T3.1.length + 1)
  clear h4
  revert g
  generalize ss S4 a 3 (T3.1.length + 1) = T4
  intro g
  simp only [w7_54]
  exact ⟨by trivial, zG_cast g (by decide) (by decide) (by decide)⟩
theorem c_X11 (a : Nat) (S : zS) (I : zM) (hk : kd S a = 13) : Wp 11 0 [vR a] [] S I (fun r S' _ => r = vU ∧ zG S S' 3022 138 3237) := by
  have g : zG S S 0 0 0 := zG_rf S
  simp only [w11_0, w11_1, w11_4, w11_5, w11_8, w11_9]
  refine ⟨kd_spn _ _, Wp_mono (c_X9 _ _ _ (kd_spn _ _)) ?_⟩
  rintro _ S1 I1 ⟨rfl, h1⟩
  simp only [zpu_U, w11_12]
  refine ⟨zG_kd2 g h1 hk (by decide), ?_⟩
  replace g := zG_blk g h1 (by decide) hk (by decide) (by decide) 0 (S.1.length + 1)
  clear h1
  revert g
  generalize ss S1 a 0 (S.1.length + 1) = T1
  intro g
  simp only [w11_15, w11_16, w11_19, w11_20]
  refine ⟨kd_spn _ _, Wp_mono (c_X3 _ _ _ (kd_spn _ _)) ?_⟩
  rintro _ S2 I2 ⟨rfl, h2⟩
  simp only [zpu_U, w11_23]
  refine ⟨zG_kd2 g h2 hk (by decide), ?_⟩
  replace g := zG_blk g h2 (by decide) hk (by decide) (by decide) 1 (T1.1.length + 1)
  clear h2
  revert g
  generalize ss S2 a 1 (T1.1.length + 1) = T2
  intro g
  simp only [w11_26, w11_27, w11_30, w11_31]
  refine ⟨kd_spn _ _, Wp_mono (c_X2 _ _ _ (kd_spn _ _)) ?_⟩
  rintro _ S3 I3 ⟨rfl, h3⟩
  simp only [zpu_U, w11_34]
  refine ⟨zG_kd2 g h3 hk (by decide), ?_⟩
  replace g := zG_blk g h3 (by decide) hk (by decide) (by decide) 2 (T2.1.length + 1)
  clear h3
  revert g
  generalize ss S3 a 2 (T2.1.length + 1) = T3
  intro g
  simp only [w11_37, w11_38, w11_41, w11_42]
  refine ⟨kd_spn _ _, Wp_mono (c_X1 _ _ _ (kd_spn _ _)) ?_⟩
  rintro _ S4 I4 ⟨rfl, h4⟩
  simp only [zpu_U, w11_45]
  refine ⟨zG_kd2 g h4 hk (by decide), ?_⟩
  replace g := zG_blk g h4 (by decide) hk (by decide) (by decide) 3 (T3.1.length + 1)
  clear h4
  revert g
  generalize ss S4 a 3 (T3.1.length + 1) = T4
  intro g
  simp only [w11_48, w11_49, w11_52, w11_53]
  refine ⟨kd_spn _ _, Wp_mono (c_X6 _ _ _ (kd_spn _ _)) ?_⟩
  rintro _ S5 I5 ⟨rfl, h5⟩
  simp only [zpu_U, w11_56]
  refine ⟨zG_kd2 g h5 hk (by decide), ?_⟩
  replace g := zG_blk g h5 (by decide) hk (by decide) (by decide) 4 (T4.1.length + 1)
  clear h5
  revert g
  generalize ss S5 a 4 (T4.1.length + 1) = T5
  intro g
  simp only [w11_59, w11_60, w11_63, w11_64]
  refine ⟨kd_spn _ _, Wp_mono (c_X0 _ _ _ (kd_spn _ _)) ?_⟩
  rintro _ S6 I6 ⟨rfl, h6⟩
  simp only [zpu_U, w11_67]
  refine ⟨zG_kd2 g h6 hk (by decide), ?_⟩
  replace g := zG_blk g h6 (by decide) hk (by decide) (by decide) 5 (T5.1.length + 1)
  clear h6
  revert g
  generalize ss S6 a 5 (T5.1.length + 1) = T6
  intro g
  simp only [w11_70, w11_71, w11_74, w11_75, w11_76]
  refine ⟨kd_spn _ _, Wp_mono (c_X10 _ _ _ _ (kd_spn _ _) (by decide)) ?_⟩
  rintro _ S7 I7 ⟨rfl, h7⟩
  simp only [zpu_U, w11_79]
  refine ⟨zG_kd2 g h7 hk (by decide), ?_⟩
  replace g := zG_blk g h7 (by decide) hk (by decide) (by decide) 6 (T6.1.length + 1)
  clear h7
  revert g
  generalize ss S7 a 6 (T6.1.length + 1) = T7
  intro g
  simp only [w11_82, w11_83, w11_86, w11_87, w11_88]
  refine ⟨kd_spn _ _, Wp_mono (c_X10 _ _ _ _ (kd_spn _ _) (by decide)) ?_⟩
  rintro _ S8 I8 ⟨rfl, h8⟩
  simp only [zpu_U, w11_91]
  refine ⟨zG_kd2 g h8 hk (by decide), ?_⟩
  replace g := zG_blk g h8 (by decide) hk (by decide) (by decide) 7 (T7.1.length + 1)
  clear h8
  revert g
  generalize ss S8 a 7 (T7.1.length + 1) = T8
  intro g
  simp only [w11_94, w11_95, w11_98, w11_99]
  refine ⟨kd_spn _ _, Wp_mono (c_X4 _ _ _ (kd_spn _ _)) ?_⟩
  rintro _ S9 I9 ⟨rfl, h9⟩
  simp only [zpu_U, w11_102]
  refine ⟨zG_kd2 g h9 hk (by decide), ?_⟩
  replace g := zG_blk g h9 (by decide) hk (by decide) (by decide) 8 (T8.1.length + 1)
  clear h9
  revert g
  generalize ss S9 a 8 (T8.1.length + 1) = T9
  intro g
  simp only [w11_105, w11_106, w11_109, w11_110]
  refine ⟨kd_spn _ _, Wp_mono (c_X4 _ _ _ (kd_spn _ _)) ?_⟩
  rintro _ S10 I10 ⟨rfl, h10⟩
  simp only [zpu_U, w11_113]
  refine ⟨zG_kd2 g h10 hk (by decide), ?_⟩
  replace g := zG_blk g h10 (by decide) hk (by decide) (by decide) 9 (T9.1.length + 1)
  clear h10
  revert g
  generalize ss S10 a 9 (T9.1.length + 1) = T10
  intro g
  simp only [w11_116, w11_117, w11_120, w11_121]
  refine ⟨kd_spn _ _, Wp_mono (c_X7 _ _ _ (kd_spn _ _)) ?_⟩
  rintro _ S11 I11 ⟨rfl, h11⟩
  simp only [zpu_U, w11_124]
  refine ⟨zG_kd2 g h11 hk (by decide), ?_⟩
  replace g := zG_blk g h11 (by decide) hk (by decide) (by decide) 10 (T10.1.length + 1)
  clear h11
  revert g
  generalize ss S11 a 10 (T10.1.length + 1) = T11
  intro g
  simp only [w11_127]
  exact ⟨by trivial, zG_cast g (by decide) (by decide) (by decide)⟩
end CT
