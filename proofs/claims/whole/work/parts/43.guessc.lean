/-! fits, sure: the class; what can have been, and which sets are in time -/
theorem tb255 : ∀ i, i < 8 → Nat.testBit 255 i = true := by decide
theorem tb_hi {a i : Nat} (ha : a < 256) (hi : ¬ i < 8) : a.testBit i = false := by
  apply Nat.testBit_lt_two_pow
  exact Nat.lt_of_lt_of_le (show a < 2 ^ 8 by omega) (Nat.pow_le_pow_right (by omega) (by omega))
theorem nI_andn {a : Nat} (b : Nat) (ha : a < 256) : nI a &&& (nI b ^^^ Int32.ofInt (-1)) = nI (a &&& (255 ^^^ b)) := by
  apply Int32.toBitVec_inj.mp
  show BitVec.ofNat 32 a &&& (BitVec.ofNat 32 b ^^^ BitVec.ofInt 32 (-1)) = BitVec.ofNat 32 (a &&& (255 ^^^ b))
  rw [show BitVec.ofInt 32 (-1) = BitVec.allOnes 32 by decide]
  apply BitVec.eq_of_getLsbD_eq
  intro i hi
  rw [BitVec.getLsbD_and, BitVec.getLsbD_xor, BitVec.getLsbD_allOnes, BitVec.getLsbD_ofNat, BitVec.getLsbD_ofNat, BitVec.getLsbD_ofNat, Nat.testBit_and, Nat.testBit_xor]
  by_cases h8 : i < 8
  · rw [tb255 i h8, decide_eq_true hi]
    cases a.testBit i <;> cases b.testBit i <;> rfl
  · rw [tb_hi ha h8, Bool.and_false, Bool.false_and, Bool.false_and, Bool.and_false]
theorem andn_bit (a b i : Nat) (hi : i < 8) : (a &&& (255 ^^^ b)).testBit i = (a.testBit i && !b.testBit i) := by
  rw [Nat.testBit_and, Nat.testBit_xor, tb255 i hi, Bool.true_xor]
theorem andn0 {a : Nat} (b : Nat) (ha : a < 256) : nI a &&& (nI b ^^^ Int32.ofInt (-1)) = 0 ↔ sbs a b = true := by
  rw [nI_andn b ha, sbs_iff]
  have hle : a &&& (255 ^^^ b) ≤ a := Nat.and_le_left
  constructor
  · intro z
    have z0 : a &&& (255 ^^^ b) = 0 := (nI_eq (b := 0) (by omega) (by omega)).mp z
    intro i hi hb
    have h1 := andn_bit a b i hi
    rw [z0, Nat.zero_testBit, hb, Bool.true_and] at h1
    cases h2 : b.testBit i with
    | true => rfl
    | false => rw [h2] at h1; exact absurd h1 (by decide)
  · intro z
    have z0 : a &&& (255 ^^^ b) = 0 := by
      apply Nat.eq_of_testBit_eq
      intro i
      rw [Nat.zero_testBit]
      by_cases h8 : i < 8
      · rw [andn_bit a b i h8]
        cases h2 : a.testBit i with
        | true => rw [z i h8 h2]; rfl
        | false => rfl
      · rw [Nat.testBit_and, tb_hi ha h8, Bool.false_and]
    rw [z0]
    rfl
theorem chb30 {m : Nat → Nat → Int32} {R t : Nat} (X : Int32) (hR : R ≤ 99) (ht : t < 2 ^ 20) (h5 : m 9 5 = nI R) : ∀ d b fu, b + d = 4 → d < fu → FL_La_canHaveBeen_9_30 fu m (nI t) X (nI b) = some (if cbl R t X d b = true then .inr () else .inl 0) := by
  intro d
  induction d with
  | zero =>
    intro b fu e1 e2
    obtain ⟨fu, rfl⟩ : ∃ f, fu = f + 1 := ⟨fu - 1, by omega⟩
    obtain rfl : b = 4 := by omega
    rw [FL_La_canHaveBeen_9_30, if_pos (by decide), cbl, if_pos rfl]
  | succ d ih =>
    intro b fu e1 e2
    obtain ⟨fu, rfl⟩ : ∃ f, fu = f + 1 := ⟨fu - 1, by omega⟩
    have g4 : ¬ (4 : Int32) ≤ nI b := (nI_ge (by omega) (by omega) : ¬ nI 4 ≤ nI b)
    have ih := ih (b + 1) fu (by omega) (by omega)
    have hb99 : R * (b + 1) ≤ 99 * 4 := Nat.mul_le_mul hR (by omega)
    rw [FL_La_canHaveBeen_9_30, if_neg g4, h5, nI_1, pk_mul, ih]
    rcases and1 (X >>> (nI b &&& 31)) with hb | hb
    · rw [cbl_0 hb, hb]
      simp only [if_true, ite_self]
    · rw [cbl_1 hb, hb]
      simp only [ne1, if_false]
      by_cases z : R = 0
      · rw [if_pos (by rw [z]; decide), if_neg (by simp [z])]
      · rw [if_neg (nI_nle (by omega) (by omega))]
        by_cases y : t < R * (b + 1)
        · rw [if_pos (nI_lt y (by omega)), if_neg (by
            have : ¬ R * (b + 1) ≤ t := by omega
            simp [this])]
        · rw [if_neg (nI_nlt (by omega) (by omega))]
          have y1 : decide (0 < R) = true := by simp; omega
          have y2 : decide (R * (b + 1) ≤ t) = true := by simp; omega
          rw [y1, y2, Bool.true_and, Bool.true_and]
theorem canHave_ok {l : aL} {x : aN} {m : Nat → Nat → Int32} (hk : aLok l) (hx : aNok l x) (hc : LCl l m) {h i v : Nat} (hh : h < lH l) (hi : i < lK l) (hs : xS x i = some v) : F_La_canHaveBeen_9 m (nI h) (nI v) (nI (cm l x i)) = some (if cbB l x h i = true then 1 else 0) := by
  have hfu := qFU_big
  have h5 := hk.2.1
  have h8 := hk.2.2.1
  have cb := cm_bd hk hx.2.2.1 i hi
  have mh := hc.2.2.2.2.2.2.2.2.2.1 h hh
  have e0 : cbB l x h i = (decide (nI v &&& (nI (lM l h) ^^^ Int32.ofInt (-1)) = 0) && cbl (lR l) (cm l x i) (nI (lM l h) &&& (nI v ^^^ Int32.ofInt (-1))) 4 0) := by unfold cbB; rw [hs]
  have c := chb30 (m := m) (R := lR l) (t := cm l x i) (nI (lM l h) &&& (nI v ^^^ Int32.ofInt (-1))) hk.2.2.2.2.2.1 (by omega) hc.2.2.2.2.2.1 4 0 qFU (by omega) (by omega)
  unfold F_La_canHaveBeen_9
  rw [q_in_nI (j := h) (by omega) (by omega), nI_clamp (n := h) (by omega), mh, cond_true, cond_true]
  by_cases z : nI v &&& (nI (lM l h) ^^^ Int32.ofInt (-1)) = 0
  · rw [decide_eq_true z, Bool.true_and] at e0
    rw [if_pos z, show FL_La_canHaveBeen_9_30 qFU m (nI (cm l x i)) (nI (lM l h) &&& (nI v ^^^ Int32.ofInt (-1))) 0 = _ from c, Option.bind_some, e0]
    by_cases y : cbl (lR l) (cm l x i) (nI (lM l h) &&& (nI v ^^^ Int32.ofInt (-1))) 4 0 = true
    · rw [if_pos y, if_pos y]
    · rw [if_neg y, if_neg y]
  · rw [decide_eq_false z, Bool.false_and] at e0
    rw [if_neg z, e0]
    rfl
/-- the class while it looks for ways: land, now and run as they were -/
def gCl (l : aL) (x : aN) (m : Nat → Nat → Int32) : Prop := aLok l ∧ aNok l x ∧ LCl l m ∧ NCl 15 x m ∧ rRun l x m
theorem gCl.fr {l : aL} {x : aN} {m m' : Nat → Nat → Int32} (h : gCl l x m) (e : ∀ k, k < 52 → m' k = m k) : gCl l x m' := ⟨h.1, h.2.1, h.2.2.1.of (fun k a b => e k (by omega)), h.2.2.2.1.of (fun k a b => e k (by omega)), h.2.2.2.2.of (fun k a b => e k (by omega))⟩
theorem prep43 {l : aL} {x : aN} {h : Nat} (hh : h < lH l) : ∀ (d i fu : Nat) (m : Nat → Nat → Int32), i + d = lK l → d < fu → gCl l x m → m 53 h = nI (rb (cbB l x h) i) → ∃ m', FL_Gu_prepare_52_9_39_21_43 fu m (nI h) (nI i) = some m' ∧ (∀ k, k ≠ 53 → m' k = m k) ∧ m' 53 h = nI (rb (cbB l x h) (lK l)) ∧ ∀ p, p ≠ h → m' 53 p = m 53 p := by
  intro d
  induction d with
  | zero =>
    intro i fu m e1 e2 hg h53
    obtain ⟨fu, rfl⟩ : ∃ f, fu = f + 1 := ⟨fu - 1, by omega⟩
    have h8 := hg.1.2.2.1
    rw [FL_Gu_prepare_52_9_39_21_43, hg.2.2.2.2.1, if_pos (nI_le (by omega) (by omega))]
    exact ⟨m, rfl, fun _ _ => rfl, by rw [h53, show i = lK l by omega], fun _ _ => rfl⟩
  | succ d ih =>
    intro i fu m e1 e2 hg h53
    obtain ⟨fu, rfl⟩ : ∃ f, fu = f + 1 := ⟨fu - 1, by omega⟩
    have h8 := hg.1.2.2.1
    have h5 := hg.1.2.1
    have sn : m 21 i = oI (xS x i) := hg.2.2.2.1.2.2.2 i (by omega)
    have cmi := (hg.2.2.2.2.2 i (by omega)).2.1
    rw [FL_Gu_prepare_52_9_39_21_43, hg.2.2.2.2.1, if_neg (nI_ge (by omega) (by omega)), q_in_nI (j := i) (by omega) (by omega), nI_clamp (n := i) (by omega), q_in_nI (j := h) (by omega) (by omega), nI_clamp (n := h) (by omega), sn, cmi, h53, nI_shl1 i (by omega), nI_or, or_pow (rb_lt _ i), nI_1]
    simp only [cond_true]
    have yes : cbB l x h i = true → ∃ m', FL_Gu_prepare_52_9_39_21_43 fu (q_w m 53 h (nI (rb (cbB l x h) i + 2 ^ i))) (nI h) (nI (i + 1)) = some m' ∧ (∀ k, k ≠ 53 → m' k = m k) ∧ m' 53 h = nI (rb (cbB l x h) (lK l)) ∧ ∀ p, p ≠ h → m' 53 p = m 53 p := by
      intro z
      obtain ⟨m', a1, a2, a3, a4⟩ := ih (i + 1) fu (q_w m 53 h (nI (rb (cbB l x h) i + 2 ^ i))) (by omega) (by omega) (hg.fr (fun k hk => q_w_row _ _ _ (by omega))) (by rw [q_w_same, rb, if_pos z])
      exact ⟨m', a1, fun k hk => by rw [a2 k hk, q_w_row _ _ _ hk], a3, fun p hp => by rw [a4 p hp, q_w_ne _ _ (by omega)]⟩
    cases hs : xS x i with
    | none =>
      rw [oI_none, if_pos rfl]
      exact yes (by unfold cbB; rw [hs])
    | some v =>
      have v15 := hg.2.1.2.2.2 i v (by omega) hs
      rw [oI_some, if_neg (nI_neg9 (by omega)), canHave_ok hg.1 hg.2.1 hg.2.2.1 hh (by omega) hs, Option.bind_some]
      by_cases z : cbB l x h i = true
      · rw [if_pos z, if_neg ne1]
        exact yes z
      · rw [if_neg z, if_pos rfl]
        exact ih (i + 1) fu m (by omega) (by omega) hg (by rw [h53, rb, if_neg z, Nat.add_zero])
theorem prep23 {l : aL} {x : aN} : ∀ (d h fu : Nat) (m : Nat → Nat → Int32), h + d = lH l → d < fu → gCl l x m → m 52 0 = nI (lH l) → (∀ p, p < h → m 53 p = nI (rb (cbB l x p) (lK l))) → ∃ m', FL_Gu_prepare_52_9_39_21_23 fu m (nI h) = some m' ∧ (∀ k, k ≠ 53 → m' k = m k) ∧ ∀ p, p < lH l → m' 53 p = nI (rb (cbB l x p) (lK l)) := by
  have hfu := qFU_big
  intro d
  induction d with
  | zero =>
    intro h fu m e1 e2 hg h52 h53
    obtain ⟨fu, rfl⟩ : ∃ f, fu = f + 1 := ⟨fu - 1, by omega⟩
    have h5 := hg.1.2.1
    rw [FL_Gu_prepare_52_9_39_21_23, h52, if_pos (nI_le (by omega) (by omega))]
    exact ⟨m, rfl, fun _ _ => rfl, fun p hp => h53 p (by omega)⟩
  | succ d ih =>
    intro h fu m e1 e2 hg h52 h53
    obtain ⟨fu, rfl⟩ : ∃ f, fu = f + 1 := ⟨fu - 1, by omega⟩
    have h5 := hg.1.2.1
    have h8 := hg.1.2.2.1
    obtain ⟨m1, a1, a2, a3, a4⟩ := prep43 (l := l) (x := x) (h := h) (by omega) (lK l) 0 qFU (q_w m 53 h 0) (by omega) (by omega) (hg.fr (fun k hk => q_w_row _ _ _ (by omega))) (by rw [q_w_same]; rfl)
    have fr : ∀ k, k ≠ 53 → m1 k = m k := fun k hk => by rw [a2 k hk, q_w_row _ _ _ hk]
    rw [FL_Gu_prepare_52_9_39_21_23, h52, if_neg (nI_ge (by omega) (by omega)), q_in_nI (j := h) (by omega) (by omega), nI_clamp (n := h) (by omega), cond_true, show FL_Gu_prepare_52_9_39_21_43 qFU (q_w m 53 h 0) (nI h) 0 = _ from a1, Option.bind_some, nI_1]
    obtain ⟨m', b1, b2, b3⟩ := ih (h + 1) fu m1 (by omega) (by omega) (hg.fr (fun k hk => fr k (by omega))) (by rw [fr _ (by omega)]; exact h52) (fun p hp => by
      by_cases z : p = h
      · rw [z]
        exact a3
      · rw [a4 p z, q_w_ne _ _ (by omega)]
        exact h53 p (by omega))
    exact ⟨m', b1, fun k hk => by rw [b2 k hk, fr k hk], b3⟩
theorem bt_lo {o i j : Nat} (h : j < i) : (o + 2 ^ i).testBit j = o.testBit j := by rw [Nat.add_comm, Nat.testBit_two_pow_add_gt h]
theorem bt_eq {o i : Nat} (h : o < 2 ^ i) : (o + 2 ^ i).testBit i = true := by
  rw [Nat.add_comm, Nat.testBit_two_pow_add_eq, Nat.testBit_lt_two_pow h]
  rfl
theorem bt_hi {o i j : Nat} (h : o < 2 ^ i) (hj : i < j) : (o + 2 ^ i).testBit j = false := by
  apply Nat.testBit_lt_two_pow
  have h3 : 2 ^ (i + 1) ≤ 2 ^ j := Nat.pow_le_pow_right (by omega) (by omega)
  rw [Nat.pow_succ] at h3
  omega
theorem bt_ge {o i j : Nat} (h : o < 2 ^ i) (hj : i ≤ j) : o.testBit j = false := by
  apply Nat.testBit_lt_two_pow
  exact Nat.lt_of_lt_of_le h (Nat.pow_le_pow_right (by omega) hj)
theorem itf_add {G : Nat → Nat → Bool} {o i : Nat} (h : o < 2 ^ i) (hi : i < 8) : itf G (o + 2 ^ i) = (itf G o && sbs o (rb (fun j => G j i) i)) := by
  rw [Bool.eq_iff_iff, Bool.and_eq_true, itf_iff, itf_iff, sbs_iff]
  constructor
  · intro e
    refine ⟨fun p hp hb j hj hb2 => ?_, fun p hp hb => ?_⟩
    · have hpi : p < i := by
        apply Classical.byContradiction
        intro z
        rw [bt_ge h (by omega)] at hb
        exact absurd hb (by decide)
      exact e p hp (by rw [bt_lo hpi]; exact hb) j hj (by rw [bt_lo (by omega)]; exact hb2)
    · have hpi : p < i := by
        apply Classical.byContradiction
        intro z
        rw [bt_ge h (by omega)] at hb
        exact absurd hb (by decide)
      rw [rb_bit, e i hi (bt_eq h) p hpi (by rw [bt_lo hpi]; exact hb)]
      simp [hpi]
  · rintro ⟨e1, e2⟩ p hp hb j hj hb2
    by_cases z : p = i
    · subst z
      rw [bt_lo hj] at hb2
      have := e2 j (by omega) hb2
      rw [rb_bit] at this
      simpa [hj] using this
    · by_cases y : p < i
      · rw [bt_lo y] at hb
        rw [bt_lo (by omega)] at hb2
        exact e1 p hp hb j hj hb2
      · rw [bt_hi h (by omega)] at hb
        exact absurd hb (by decide)
def itI (G : Nat → Nat → Bool) (P : Nat) : Int32 := if itf G P = true then 1 else 0
theorem sets24 {l : aL} {x : aN} {i : Nat} (hi : i < lK l) : ∀ (d o fu : Nat) (m : Nat → Nat → Int32), o + d = 2 ^ i → d < fu → gCl l x m → (∀ P, P < 2 ^ i + o → m 54 P = itI (cg l x) P) → ∃ m', FL_Gu_findSetsInTime_52_39_24 fu m (nI i) (nI (2 ^ i)) (nI o) = some m' ∧ (∀ k, k ≠ 54 → m' k = m k) ∧ ∀ P, P < 2 ^ (i + 1) → m' 54 P = itI (cg l x) P := by
  have ps : 2 ^ (i + 1) = 2 ^ i + 2 ^ i := by rw [Nat.pow_succ]; omega
  intro d
  induction d with
  | zero =>
    intro o fu m e1 e2 hg h54
    obtain ⟨fu, rfl⟩ : ∃ f, fu = f + 1 := ⟨fu - 1, by omega⟩
    have h8 := hg.1.2.2.1
    have p7 : 2 ^ i ≤ 2 ^ 7 := Nat.pow_le_pow_right (by omega) (by omega)
    rw [FL_Gu_findSetsInTime_52_39_24, if_pos (nI_le (by omega) (by omega))]
    exact ⟨m, rfl, fun _ _ => rfl, fun P hP => h54 P (by omega)⟩
  | succ d ih =>
    intro o fu m e1 e2 hg h54
    obtain ⟨fu, rfl⟩ : ∃ f, fu = f + 1 := ⟨fu - 1, by omega⟩
    have h8 := hg.1.2.2.1
    have p7 : 2 ^ i ≤ 2 ^ 7 := Nat.pow_le_pow_right (by omega) (by omega)
    have or1 : nI (2 ^ i) ||| nI o = nI (o + 2 ^ i) := by rw [nI_or, Nat.or_comm, or_pow (by omega)]
    have r42 : m 42 i = nI (rb (fun j => cg l x j i) i) := (hg.2.2.2.2.2 i hi).2.2
    rw [FL_Gu_findSetsInTime_52_39_24, if_neg (nI_ge (by omega) (by omega)), or1, q_in_nI (j := o) (by omega) (by omega), q_in_nI (j := i) (by omega) (by omega), q_in_nI (j := o + 2 ^ i) (by omega) (by omega), nI_clamp (n := o) (by omega), nI_clamp (n := i) (by omega), nI_clamp (n := o + 2 ^ i) (by omega), nI_1, r42, h54 o (by omega)]
    simp only [cond_true]
    have go : ∀ v, v = itI (cg l x) (o + 2 ^ i) → ∃ m', FL_Gu_findSetsInTime_52_39_24 fu (q_w m 54 (o + 2 ^ i) v) (nI i) (nI (2 ^ i)) (nI (o + 1)) = some m' ∧ (∀ k, k ≠ 54 → m' k = m k) ∧ ∀ P, P < 2 ^ (i + 1) → m' 54 P = itI (cg l x) P := by
      intro v hv
      obtain ⟨m', a1, a2, a3⟩ := ih (o + 1) fu (q_w m 54 (o + 2 ^ i) v) (by omega) (by omega) (hg.fr (fun k hk => q_w_row _ _ _ (by omega))) (fun P hP => by
        by_cases z : P = o + 2 ^ i
        · rw [z, q_w_same, hv]
        · rw [q_w_ne _ _ (by omega)]
          exact h54 P (by omega))
      exact ⟨m', a1, fun k hk => by rw [a2 k hk, q_w_row _ _ _ hk], a3⟩
    have ia := itf_add (G := cg l x) (o := o) (i := i) (by omega) (by omega)
    by_cases z : itf (cg l x) o = true
    · have e1 : itI (cg l x) o = 1 := by rw [itI, if_pos z]
      rw [e1, if_neg ne1]
      rw [z, Bool.true_and] at ia
      by_cases y : sbs o (rb (fun j => cg l x j i) i) = true
      · rw [if_pos ((andn0 _ (by omega)).mpr y)]
        exact go 1 (by rw [itI, ia, if_pos y])
      · rw [if_neg (fun q => y ((andn0 _ (by omega)).mp q))]
        exact go 0 (by rw [itI, ia, if_neg y])
    · have e1 : itI (cg l x) o = 0 := by rw [itI, if_neg z]
      rw [e1, if_pos rfl]
      exact go 0 (by rw [itI, ia, if_neg (by simp [z])])
theorem sets9 {l : aL} {x : aN} : ∀ (d i fu : Nat) (m : Nat → Nat → Int32), i + d = lK l → d < fu → gCl l x m → (∀ P, P < 2 ^ i → m 54 P = itI (cg l x) P) → ∃ m', FL_Gu_findSetsInTime_52_39_9 fu m (nI i) = some m' ∧ (∀ k, k ≠ 54 → m' k = m k) ∧ ∀ P, P < 2 ^ lK l → m' 54 P = itI (cg l x) P := by
  have hfu := qFU_big
  intro d
  induction d with
  | zero =>
    intro i fu m e1 e2 hg h54
    obtain ⟨fu, rfl⟩ : ∃ f, fu = f + 1 := ⟨fu - 1, by omega⟩
    have h8 := hg.1.2.2.1
    rw [FL_Gu_findSetsInTime_52_39_9, hg.2.2.2.2.1, if_pos (nI_le (by omega) (by omega))]
    exact ⟨m, rfl, fun _ _ => rfl, by rw [← show i = lK l by omega]; exact h54⟩
  | succ d ih =>
    intro i fu m e1 e2 hg h54
    obtain ⟨fu, rfl⟩ : ∃ f, fu = f + 1 := ⟨fu - 1, by omega⟩
    have h8 := hg.1.2.2.1
    have p7 : 2 ^ i ≤ 2 ^ 7 := Nat.pow_le_pow_right (by omega) (by omega)
    obtain ⟨m1, a1, a2, a3⟩ := sets24 (l := l) (x := x) (i := i) (by omega) (2 ^ i) 0 qFU m (by omega) (by omega) hg (fun P hP => h54 P (by omega))
    rw [FL_Gu_findSetsInTime_52_39_9, hg.2.2.2.2.1, if_neg (nI_ge (by omega) (by omega)), nI_shl1 i (by omega), show FL_Gu_findSetsInTime_52_39_24 qFU m (nI i) (nI (2 ^ i)) 0 = _ from a1, Option.bind_some, nI_1]
    obtain ⟨m', b1, b2, b3⟩ := ih (i + 1) fu m1 (by omega) (by omega) (hg.fr (fun k hk => a2 k (by omega))) a3
    exact ⟨m', b1, fun k hk => by rw [b2 k hk, a2 k hk], b3⟩
/-- what prepare leaves -/
def gP (l : aL) (x : aN) (m : Nat → Nat → Int32) : Prop := m 52 0 = nI (lH l) ∧ m 52 1 = nI (2 ^ lK l - 1) ∧ (∀ p, p < lH l → m 53 p = nI (rb (cbB l x p) (lK l))) ∧ ∀ P, P < 2 ^ lK l → m 54 P = itI (cg l x) P
theorem itf0 (G : Nat → Nat → Bool) : itf G 0 = true := by
  rw [itf_iff]
  intro i _ z
  rw [Nat.zero_testBit] at z
  exact absurd z (by decide)
theorem prepare_ok {l : aL} {x : aN} {m : Nat → Nat → Int32} (hg : gCl l x m) : ∃ m', F_Gu_prepare_52_9_39_21 m = some m' ∧ gP l x m' ∧ ∀ k, k < 52 → m' k = m k := by
  have hfu := qFU_big
  have h8 := hg.1.2.2.1
  have h5 := hg.1.2.1
  have p0 : 0 < 2 ^ lK l := Nat.pow_pos (by omega)
  have p8 : 2 ^ lK l ≤ 2 ^ 8 := Nat.pow_le_pow_right (by omega) (by omega)
  have e1 : ((1 : Int32) <<< (m 39 0 &&& 31)) - 1 = nI (2 ^ lK l - 1) := by
    rw [hg.2.2.2.2.1, nI_shl1 _ (by omega), i_1, pk_sub (by omega)]
  obtain ⟨m0, hm0⟩ : ∃ m0, m0 = q_w (q_w m 52 0 (nI (lH l))) 52 1 (nI (2 ^ lK l - 1)) := ⟨_, rfl⟩
  have fr0 : ∀ k, k ≠ 52 → m0 k = m k := fun k hk => by rw [hm0, q_w_row _ _ _ hk, q_w_row _ _ _ hk]
  have c0 : m0 52 0 = nI (lH l) := by rw [hm0, q_w_ne _ _ (by omega), q_w_same]
  have c1 : m0 52 1 = nI (2 ^ lK l - 1) := by rw [hm0, q_w_same]
  obtain ⟨m1, a1, a2, a3⟩ := prep23 (l := l) (x := x) (lH l) 0 qFU m0 (by omega) (by omega) (hg.fr (fun k hk => fr0 k (by omega))) c0 (fun p hp => absurd hp (by omega))
  obtain ⟨m2, b1, b2, b3⟩ := sets9 (l := l) (x := x) (lK l) 0 qFU (q_w m1 54 0 1) (by omega) (by omega) (hg.fr (fun k hk => by rw [q_w_row _ _ _ (by omega), a2 k (by omega), fr0 k (by omega)])) (fun P hP => by
    obtain rfl : P = 0 := by
      rw [Nat.pow_zero] at hP
      omega
    rw [q_w_same, itI, if_pos (itf0 _)])
  have fr2 : ∀ k, k ≠ 54 → m2 k = m1 k := fun k hk => by rw [b2 k hk, q_w_row _ _ _ hk]
  refine ⟨m2, ?_, ⟨by rw [fr2 _ (by omega), a2 _ (by omega)]; exact c0, by rw [fr2 _ (by omega), a2 _ (by omega)]; exact c1, fun p hp => by rw [fr2 _ (by omega)]; exact a3 p hp, b3⟩, fun k hk => by rw [fr2 k (by omega), a2 k (by omega), fr0 k (by omega)]⟩
  unfold F_Gu_prepare_52_9_39_21 F_Gu_findSetsInTime_52_39
  rw [e1, hg.2.2.1.2.1, ← hm0, show FL_Gu_prepare_52_9_39_21_23 qFU m0 0 = _ from a1, Option.bind_some, show FL_Gu_findSetsInTime_52_39_9 qFU (q_w m1 54 0 1) 0 = _ from b1]
  rfl
