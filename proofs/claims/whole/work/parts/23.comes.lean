/-! bits; when the hare comes; who sits -/
theorem nI_or (a b : Nat) : nI a ||| nI b = nI (a ||| b) := by
  apply Int32.toBitVec_inj.mp
  show BitVec.ofNat 32 a ||| BitVec.ofNat 32 b = BitVec.ofNat 32 (a ||| b)
  apply BitVec.eq_of_getLsbD_eq
  intro i hi
  simp [hi]
theorem nI_and (a b : Nat) : nI a &&& nI b = nI (a &&& b) := by
  apply Int32.toBitVec_inj.mp
  show BitVec.ofNat 32 a &&& BitVec.ofNat 32 b = BitVec.ofNat 32 (a &&& b)
  apply BitVec.eq_of_getLsbD_eq
  intro i hi
  simp [hi]
theorem sh31 : ∀ j, j < 32 → ((nI j &&& 31).toBitVec.smod 32).toNat = j := by decide +kernel
theorem nI_shl1 : ∀ j, j < 31 → (1 : Int32) <<< (nI j &&& 31) = nI (2 ^ j) := by decide +kernel
theorem nI_shr {a j : Nat} (ha : a < 2 ^ 31) (hj : j < 32) : nI a >>> (nI j &&& 31) = nI (a / 2 ^ j) := pk_shrN ha _ j (sh31 j hj)
theorem nI_bit {a j : Nat} (ha : a < 2 ^ 31) (hj : j < 32) : (nI a >>> (nI j &&& 31)) &&& 1 = nI (a / 2 ^ j % 2) := by
  rw [nI_shr ha hj]
  have h1 : a / 2 ^ j < 2 ^ 32 := Nat.lt_of_le_of_lt (Nat.div_le_self _ _) (by omega)
  exact pk_andN h1 1 (by decide)
theorem and1 (x : Int32) : x &&& 1 = 0 ∨ x &&& 1 = 1 := by
  obtain ⟨j, h1, h2⟩ := pk_andE x (m := 1) 1 (by decide)
  rw [h2]
  obtain rfl | rfl : j = 0 ∨ j = 1 := by omega
  · exact Or.inl rfl
  · exact Or.inr rfl
theorem testBit_div (a j : Nat) : a.testBit j = decide (a / 2 ^ j % 2 = 1) := by
  rw [Nat.testBit_eq_decide_div_mod_eq]
theorem rb_lt (f : Nat → Bool) : ∀ i, rb f i < 2 ^ i
  | 0 => by simp [rb]
  | i + 1 => by
    have h := rb_lt f i
    unfold rb
    rw [Nat.pow_succ]
    split <;> omega
theorem rb_bit (f : Nat → Bool) : ∀ i j, (rb f i).testBit j = (decide (j < i) && f j)
  | 0, j => by simp [rb]
  | i + 1, j => by
    unfold rb
    have hlt := rb_lt f i
    by_cases hf : f i = true
    · rw [if_pos hf, Nat.add_comm]
      by_cases hj : j < i
      · rw [Nat.testBit_two_pow_add_gt hj, rb_bit f i j]
        have : j < i + 1 := by omega
        simp [hj, this]
      · by_cases hji : j = i
        · subst hji
          rw [Nat.testBit_two_pow_add_eq, Nat.testBit_lt_two_pow hlt]
          simp [hf]
        · have h2 : 2 ^ i + rb f i < 2 ^ (i + 1) := by rw [Nat.pow_succ]; omega
          have h3 : 2 ^ (i + 1) ≤ 2 ^ j := Nat.pow_le_pow_right (by omega) (by omega)
          rw [Nat.testBit_lt_two_pow (by omega)]
          have : ¬ j < i + 1 := by omega
          simp [this]
    · rw [if_neg hf, Nat.add_zero, rb_bit f i j]
      by_cases hji : j = i
      · subst hji
        simp [hf]
      · have h1 : (j < i + 1) ↔ (j < i) := by omega
        simp [h1]
theorem or_pow {a j : Nat} (h : a < 2 ^ j) : a ||| 2 ^ j = a + 2 ^ j := by
  rw [Nat.or_comm, Nat.add_comm]
  have h1 := Nat.two_pow_add_eq_or_of_lt h 1
  rw [Nat.mul_one] at h1
  exact h1.symm
/-- the reference's minutes -/
theorem comes_loop {l : aL} {x : aN} {n : Nat → Nat → Int32} (hk : aLok l) (hm : LMo l n) (hx : NMs 60 0 x n) (I : Nat) (hI : I < lK l) : ∀ (k i fu : Nat), i + k = I → k < fu → FL_Mo_comes_4 fu n (nI I) (nI (cm l x i)) (nI i) = some (nI (cm l x I)) := by
  have h8 := hk.2.2.1
  intro k
  induction k with
  | zero =>
    intro i fu hi hf
    obtain ⟨fu, rfl⟩ : ∃ f, fu = f + 1 := ⟨fu - 1, by omega⟩
    have hi : i = I := by omega
    subst hi
    rw [FL_Mo_comes_4, if_pos (nI_le (Nat.le_refl _) (by omega))]
  | succ k ih =>
    intro i fu hi hf
    obtain ⟨fu, rfl⟩ : ∃ f, fu = f + 1 := ⟨fu - 1, by omega⟩
    have c1 := hk.2.2.2.2.2.2.2.2.2.1 i (by omega)
    have c2 := hk.2.2.2.2.2.2.2.2.2.1 (i + 1) (by omega)
    have hP := hk.1.2
    have e1 := hm.2.2.2.2.2.2.2.2.2.2 i (by omega)
    have e2 := hm.2.2.2.2.2.2.2.2.2.2 (i + 1) (by omega)
    have e3 := hm.2.2.2.2.2.2.1 (8 * lC l i + lC l (i + 1)) (by omega)
    have e4 := hx.2.2 i (by omega)
    rw [Nat.zero_add] at e4
    rw [FL_Mo_comes_4, if_neg (nI_ge (by omega) (by omega)), i_49, i_13, i_21, i_8, i_1, nI_add, nI_add, nI_add, nI_clamp (n := 13 + i) (by omega), nI_clamp (n := 13 + i + 1) (by omega), show 13 + i + 1 = 13 + (i + 1) by omega, e1, e2, pk_mul, nI_add, nI_add, nI_clamp (n := 21 + 8 * lC l i + lC l (i + 1)) (by omega), show 21 + 8 * lC l i + lC l (i + 1) = 21 + (8 * lC l i + lC l (i + 1)) by omega, e3, nI_clamp (by omega), e4, hm.2.2.2.2.1, nI_add, pk_mul, nI_add, nI_add, nI_add, q_in_nI (by omega) (by omega), q_in_nI (by omega) (by omega), q_in_nI (by omega) (by omega), q_in_nI (by omega) (by omega)]
    have e5 : cm l x i + (xW x i + lF l (8 * lC l i + lC l (i + 1)) + i * lT l) = cm l x (i + 1) := by
      show _ = cm l x i + xW x i + lF l (8 * lC l i + lC l (i + 1)) + i * lT l
      omega
    rw [e5]
    exact ih (i + 1) fu (by omega) (by omega)
theorem comes_ok {l : aL} {x : aN} {n : Nat → Nat → Int32} (hk : aLok l) (hm : LMo l n) (hx : NMs 60 0 x n) {i : Nat} (hi : i < lK l) : F_Mo_comes n (nI i) = some (nI (cm l x i)) := by
  have h8 := hk.2.2.1
  unfold F_Mo_comes
  rw [show FL_Mo_comes_4 qFU n (nI i) 0 0 = some (nI (cm l x i)) from comes_loop hk hm hx i hi i 0 qFU (by omega) (by have := qFU_big; omega)]
  rfl
theorem cm_le (l : aL) (x : aN) {i j : Nat} (h : i ≤ j) : cm l x i ≤ cm l x j := by
  induction h with
  | refl => exact Nat.le_refl _
  | step h ih => exact Nat.le_trans ih (by show _ ≤ cm l x _ + _ + _ + _; omega)
theorem cm_bd {l : aL} {x : aN} (hk : aLok l) (hx : ∀ i, i < 8 → xW x i ≤ 20) : ∀ i, i < lK l → cm l x i ≤ 60 * i
  | 0, _ => Nat.le_refl _
  | i + 1, h => by
    have h8 := hk.2.2.1
    have ih := cm_bd hk hx i (by omega)
    have h1 := hx i (by omega)
    have c1 := hk.2.2.2.2.2.2.2.2.2.1 i (by omega)
    have c2 := hk.2.2.2.2.2.2.2.2.2.1 (i + 1) (by omega)
    have hP := hk.1.2
    have h2 := hk.2.2.2.2.2.2.1 (8 * lC l i + lC l (i + 1)) (by omega)
    have h3 : i * lT l ≤ 7 * 3 := Nat.mul_le_mul (by omega) hk.2.2.2.2.1
    show cm l x i + xW x i + lF l (8 * lC l i + lC l (i + 1)) + i * lT l ≤ _
    omega
/-- who sits at some places in a minute: both alike -/
theorem sit_eq {l : aL} {x : aN} {m n : Nat → Nat → Int32} (hx : aNok l x) (hc : NCl 15 x m) (hn : NMs 60 0 x n) (h5 : lH l ≤ 5) (p : Int32) (t : Nat) (ht : t < 2 ^ 30) : ∀ (k i fu fv : Nat) (s0 : Nat), s0 < 32 → i + k = xC x → k < fu → k < fv → ∃ v, v < 32 ∧ FL_No_sittersAt_15_5 fu m p (nI t) (nI s0) (nI i) = some (nI v) ∧ FL_Mo_sitting_5 fv n p (nI t) (nI s0) (nI i) = some (nI v) := by
  have h12 := hx.1
  intro k
  induction k with
  | zero =>
    intro i fu fv s0 hs0 hi hf hv
    obtain ⟨fu, rfl⟩ : ∃ f, fu = f + 1 := ⟨fu - 1, by omega⟩
    obtain ⟨fv, rfl⟩ : ∃ f, fv = f + 1 := ⟨fv - 1, by omega⟩
    refine ⟨s0, hs0, ?_, ?_⟩
    · rw [FL_No_sittersAt_15_5, hc.1, if_pos (nI_le (by omega) (by omega))]
    · rw [FL_Mo_sitting_5, hn.1, if_pos (nI_le (by omega) (by omega))]
  | succ k ih =>
    intro i fu fv s0 hs0 hi hf hv
    obtain ⟨fu, rfl⟩ : ∃ f, fu = f + 1 := ⟨fu - 1, by omega⟩
    obtain ⟨fv, rfl⟩ : ∃ f, fv = f + 1 := ⟨fv - 1, by omega⟩
    have e : nI s0 ||| 0 = nI s0 := by
      apply Int32.toBitVec_inj.mp
      show (nI s0).toBitVec ||| 0#32 = (nI s0).toBitVec
      simp
    have hi2 : i < xC x := by omega
    obtain ⟨b1, b2, b3, b4⟩ := hx.2.1 i hi2
    obtain ⟨c1, c2, c3, c4⟩ := hc.2.1 i hi2
    obtain ⟨n1, n2, n3, n4⟩ := hn.2.1 i hi2
    rw [Nat.zero_add] at n1 n2 n3 n4
    rw [FL_No_sittersAt_15_5, FL_Mo_sitting_5, hc.1, hn.1, if_neg (nI_ge hi2 (by omega)), if_neg (nI_ge hi2 (by omega))]
    simp only [i_13, i_25, i_37, i_1, nI_add]
    rw [q_in_nI (j := i) (n := 12) (by omega) (by omega), q_in_nI (j := 13 + i) (by omega) (by omega), q_in_nI (j := 25 + i) (by omega) (by omega), q_in_nI (j := 37 + i) (by omega) (by omega), q_in_nI (j := 1 + i) (by omega) (by omega), nI_clamp (n := i) (by omega), nI_clamp (n := 13 + i) (by omega), nI_clamp (n := 25 + i) (by omega), nI_clamp (n := 37 + i) (by omega), nI_clamp (n := 1 + i) (by omega), c1, c2, c3, c4, n1, n2, n3, n4]
    simp only [cond_true]
    rw [show i + 1 = i + 1 from rfl]
    rcases and1 (p >>> (nI (xP x i) &&& 31)) with h | h
    · have h : p >>> (nI (xP x i) &&& 31) &&& nI 1 = 0 := h
      rw [h, if_pos rfl, if_neg (by decide)]
      rw [e]
      exact ih (i + 1) fu fv s0 hs0 (by omega) (by omega) (by omega)
    · have h : p >>> (nI (xP x i) &&& 31) &&& nI 1 = 1 := h
      rw [h, if_neg (by decide), if_pos (show (1 : Int32) = nI 1 from rfl)]
      unfold F_Mo_in
      by_cases h1 : t < xF x i
      · have f1 : nI t < nI (xF x i) := nI_lt h1 (by omega)
        rw [if_pos f1, if_pos f1, Option.bind_some, if_pos rfl]
        rw [e]
        exact ih (i + 1) fu fv s0 hs0 (by omega) (by omega) (by omega)
      · have f1 : ¬ nI t < nI (xF x i) := nI_nlt (by omega) (by omega)
        rw [if_neg f1, if_neg f1]
        by_cases h2 : xT x i < t
        · have f2 : nI (xT x i) < nI t := nI_lt h2 (by omega)
          rw [if_pos f2, if_pos f2, Option.bind_some, if_pos rfl]
          rw [e]
          exact ih (i + 1) fu fv s0 hs0 (by omega) (by omega) (by omega)
        · have f2 : ¬ nI (xT x i) < nI t := nI_nlt (by omega) (by omega)
          rw [if_neg f2, if_neg f2, Option.bind_some, if_neg ne1]
          have e9 : nI s0 ||| nI 1 <<< (nI (xH x i) &&& 31) = nI (s0 ||| 2 ^ xH x i) := by
            rw [show nI 1 <<< (nI (xH x i) &&& 31) = nI (2 ^ xH x i) from nI_shl1 _ (by omega), nI_or]
          rw [e9]
          have h32 : 2 ^ xH x i < 2 ^ 5 := Nat.pow_lt_pow_right (by omega) (by omega)
          exact ih (i + 1) fu fv _ (Nat.or_lt_two_pow (n := 5) hs0 h32) (by omega) (by omega) (by omega)
theorem or_comm (a b : Int32) : a ||| b = b ||| a := by
  apply Int32.toBitVec_inj.mp
  show a.toBitVec ||| b.toBitVec = b.toBitVec ||| a.toBitVec
  exact BitVec.or_comm _ _
/-- whom the hare meets, whom he sees -/
theorem meets_eq {l : aL} {x : aN} {m n : Nat → Nat → Int32} (hl : aLok l ∧ LCl l m ∧ LMo l n) (hx : aNok l x ∧ NCl 15 x m ∧ NMo 60 0 x n) (hr : rRun l x m) {i : Nat} (hi : i < lK l) : ∃ v, v < 32 ∧ F_AT_meetingAt m (nI i) = some (nI v) ∧ F_Mo_meets n (nI i) = some (nI v) := by
  obtain ⟨hk, hc, hm⟩ := hl
  have h8 := hk.2.2.1
  have hb := cm_bd hk hx.1.2.2.1 i hi
  obtain ⟨r1, r2, r3⟩ := hr.2 i hi
  obtain ⟨v, v0, v1, v2⟩ := sit_eq hx.1 hx.2.1 hx.2.2.1 hk.2.1 ((1 : Int32) <<< (nI (lC l i) &&& 31)) (cm l x i) (by omega) (xC x) 0 qFU qFU 0 (by omega) (by omega) (by have := qFU_big; have := hx.1.1; omega) (by have := qFU_big; have := hx.1.1; omega)
  refine ⟨v, v0, ?_, ?_⟩
  · unfold F_AT_meetingAt F_No_sittersAt_15
    rw [q_in_nI (by omega) (by omega), nI_clamp (by omega), r1, r2]
    simp only [cond_true]
    rw [show (0 : Int32) = nI 0 from rfl]
    rw [v1]
    rfl
  · unfold F_Mo_meets F_Mo_sitting
    rw [comes_ok hk hm hx.2.2.1 hi, i_13, nI_add, q_in_nI (by omega) (by omega), nI_clamp (by omega), hm.2.2.2.2.2.2.2.2.2.2 i hi]
    simp only [cond_true, Option.bind_some]
    rw [show (0 : Int32) = nI 0 from rfl]
    rw [v2]
    rfl
theorem sees_eq {l : aL} {x : aN} {m n : Nat → Nat → Int32} (hl : aLok l ∧ LCl l m ∧ LMo l n) (hx : aNok l x ∧ NCl 15 x m ∧ NMo 60 0 x n) (hr : rRun l x m) {i : Nat} (hi : i < lK l) : ∃ v, v < 32 ∧ F_AT_inViewAt m (nI i) = some (nI v) ∧ F_Mo_sees n (nI i) = some (nI v) := by
  obtain ⟨hk, hc, hm⟩ := hl
  have h8 := hk.2.2.1
  have hP := hk.1.2
  have hb := cm_bd hk hx.1.2.2.1 i hi
  have c1 := hk.2.2.2.2.2.2.2.2.2.1 i hi
  obtain ⟨r1, r2, r3⟩ := hr.2 i hi
  obtain ⟨v, v0, v1, v2⟩ := sit_eq hx.1 hx.2.1 hx.2.2.1 hk.2.1 (nI (lV l (lC l i)) ||| (1 : Int32) <<< (nI (lC l i) &&& 31)) (cm l x i) (by omega) (xC x) 0 qFU qFU 0 (by omega) (by omega) (by have := qFU_big; have := hx.1.1; omega) (by have := qFU_big; have := hx.1.1; omega)
  refine ⟨v, v0, ?_, ?_⟩
  · unfold F_AT_inViewAt F_No_sittersAt_15
    rw [q_in_nI (j := i) (by omega) (by omega), nI_clamp (n := i) (by omega), r1, r2, q_in_nI (by omega) (by omega), nI_clamp (by omega), hc.2.2.2.2.2.2.2.2.1 _ (by omega)]
    simp only [cond_true]
    rw [show (0 : Int32) = nI 0 from rfl]
    rw [v1]
    rfl
  · unfold F_Mo_sees F_Mo_sitting
    rw [comes_ok hk hm hx.2.2.1 hi, i_13, nI_add, q_in_nI (j := 13 + i) (by omega) (by omega), nI_clamp (n := 13 + i) (by omega), hm.2.2.2.2.2.2.2.2.2.2 i hi, i_85, nI_add, q_in_nI (by omega) (by omega), nI_clamp (by omega), hm.2.2.2.2.2.2.2.2.1 _ (by omega), or_comm]
    simp only [cond_true, Option.bind_some]
    rw [show (0 : Int32) = nI 0 from rfl]
    rw [v2]
    rfl
