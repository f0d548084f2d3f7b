/-! ask -/
theorem nI_xor (a b : Nat) : nI a ^^^ nI b = nI (a ^^^ b) := by
  apply Int32.toBitVec_inj.mp
  show BitVec.ofNat 32 a ^^^ BitVec.ofNat 32 b = BitVec.ofNat 32 (a ^^^ b)
  apply BitVec.eq_of_getLsbD_eq
  intro i hi
  simp [hi]
theorem xor_and : ∀ a, a < 16 → ∀ b, b < 16 → ∀ k, k < 16 → ((a ^^^ b) &&& k = 0 ↔ a &&& k = b &&& k) := by decide +kernel
theorem and_lt16 {a : Nat} (k : Nat) (h : a < 16) : a &&& k < 16 := Nat.lt_of_le_of_lt Nat.and_le_left h
theorem and_pow0 (T v : Nat) : T &&& 2 ^ v = 0 ↔ T.testBit v = false := by
  constructor
  · intro h
    have h1 := congrArg (fun z => Nat.testBit z v) h
    simp only [Nat.testBit_and, Nat.testBit_two_pow_self, Bool.and_true, Nat.zero_testBit] at h1
    exact h1
  · intro h
    apply Nat.eq_of_testBit_eq
    intro i
    rw [Nat.testBit_and, Nat.testBit_two_pow, Nat.zero_testBit]
    by_cases e : v = i
    · subst e
      rw [h]
      rfl
    · simp [e]
def Ap (M : Nat → Nat) (H S k : Nat) : Prop := ∀ a b, a < b → b < H → S.testBit a = true → S.testBit b = true → M a &&& k ≠ M b &&& k
theorem bit_cases {S i : Nat} (hS : S < 2 ^ 31) (hi : i < 32) : (S.testBit i = true ∧ (nI S >>> (nI i &&& 31)) &&& 1 = 1) ∨ (S.testBit i = false ∧ (nI S >>> (nI i &&& 31)) &&& 1 = 0) := by
  rw [nI_bit hS hi, testBit_div]
  have h1 : S / 2 ^ i % 2 = 0 ∨ S / 2 ^ i % 2 = 1 := by omega
  rcases h1 with h1 | h1
  · right
    rw [h1]
    exact ⟨rfl, rfl⟩
  · left
    rw [h1]
    exact ⟨rfl, rfl⟩
theorem apart_cls {l : aL} {m : Nat → Nat → Int32} (hk : aLok l) (hc : LCl l m) {S k : Nat} (hS : S < 32) (h16 : k < 16) : ∀ (N i fu T : Nat), i + N = lH l → N < fu → T < 2 ^ 16 → (∀ v, T.testBit v = true ↔ ∃ j, j < i ∧ S.testBit j = true ∧ lM l j &&& k = v) → (∀ a b, a < b → b < i → S.testBit a = true → S.testBit b = true → lM l a &&& k ≠ lM l b &&& k) → (FL_La_areToldApart_9_5 fu m (nI S) (nI k) (nI T) (nI i) = some (.inr ()) ∧ Ap (lM l) (lH l) S k) ∨ (FL_La_areToldApart_9_5 fu m (nI S) (nI k) (nI T) (nI i) = some (.inl 0) ∧ ¬ Ap (lM l) (lH l) S k) := by
  have h5 := hk.2.1
  intro N
  induction N with
  | zero =>
    intro i fu T e1 e2 hT hb hp
    obtain ⟨fu, rfl⟩ : ∃ f, fu = f + 1 := ⟨fu - 1, by omega⟩
    obtain rfl : i = lH l := by omega
    left
    rw [FL_La_areToldApart_9_5, hc.2.1, if_pos (nI_le (by omega) (by omega))]
    exact ⟨rfl, hp⟩
  | succ N ih =>
    intro i fu T e1 e2 hT hb hp
    obtain ⟨fu, rfl⟩ : ∃ f, fu = f + 1 := ⟨fu - 1, by omega⟩
    have g1 : ¬ nI (lH l) ≤ nI i := nI_ge (by omega) (by omega)
    have hM := hk.2.2.2.2.2.2.2.2.1 i (by omega)
    have hv := and_lt16 k (show lM l i < 16 by omega)
    rw [FL_La_areToldApart_9_5, hc.2.1, if_neg g1, q_in_nI (j := i) (by omega) (by omega), nI_clamp (n := i) (by omega), cond_true, hc.2.2.2.2.2.2.2.2.2.1 i (by omega), nI_and, nI_shl1 _ (by omega), nI_and, nI_or, nI_1]
    rcases bit_cases (S := S) (i := i) (by omega) (by omega) with ⟨b1, b2⟩ | ⟨b1, b2⟩
    · rw [b2, if_neg ne1]
      have hle : T &&& 2 ^ (lM l i &&& k) ≤ T := Nat.and_le_left
      by_cases hz : T.testBit (lM l i &&& k) = true
      · right
        have g2 : ¬ nI (T &&& 2 ^ (lM l i &&& k)) = 0 := by
          intro z
          have z := (nI_eq (b := 0) (by omega) (by omega)).mp z
          rw [and_pow0] at z
          rw [z] at hz
          exact absurd hz (by decide)
        rw [if_neg g2]
        refine ⟨rfl, fun ap => ?_⟩
        obtain ⟨j, j1, j2, j3⟩ := (hb _).mp hz
        exact ap j i j1 (by omega) j2 b1 j3
      · have g2 : nI (T &&& 2 ^ (lM l i &&& k)) = 0 := by
          rw [(and_pow0 _ _).mpr (by simpa using hz)]
          rfl
        rw [if_pos g2]
        refine ih (i + 1) fu _ (by omega) (by omega) ?_ (fun v => ?_) (fun a b ab hbi sa sb => ?_)
        · exact Nat.or_lt_two_pow hT (Nat.pow_lt_pow_right (by omega) hv)
        · rw [Nat.testBit_or, Nat.testBit_two_pow]
          constructor
          · intro h
            by_cases e : (lM l i &&& k) = v
            · exact ⟨i, by omega, b1, e⟩
            · simp only [e, decide_false, Bool.or_false] at h
              obtain ⟨j, j1, j2, j3⟩ := (hb v).mp h
              exact ⟨j, by omega, j2, j3⟩
          · rintro ⟨j, j1, j2, j3⟩
            by_cases e : j = i
            · subst e
              simp [j3]
            · have := (hb v).mpr ⟨j, by omega, j2, j3⟩
              simp [this]
        · by_cases e : b = i
          · subst e
            intro z
            exact hz ((hb _).mpr ⟨a, ab, sa, z⟩)
          · exact hp a b ab (by omega) sa sb
    · rw [b2, if_pos rfl]
      refine ih (i + 1) fu T (by omega) (by omega) hT (fun v => ?_) (fun a b ab hbi sa sb => ?_)
      · rw [hb v]
        constructor
        · rintro ⟨j, j1, j2, j3⟩
          exact ⟨j, by omega, j2, j3⟩
        · rintro ⟨j, j1, j2, j3⟩
          refine ⟨j, ?_, j2, j3⟩
          apply Classical.byContradiction
          intro z
          obtain rfl : j = i := by omega
          rw [b1] at j2
          exact absurd j2 (by decide)
      · by_cases e : b = i
        · subst e
          rw [b1] at sb
          exact absurd sb (by decide)
        · exact hp a b ab (by omega) sa sb
theorem apart_ref {l : aL} {n : Nat → Nat → Int32} (hk : aLok l) (hm : LMo l n) {S k : Nat} (x2 : Int32) (hS : S < 2 ^ lH l) (h16 : k < 16) : ∀ (N c fu : Nat) (x4 : Int32), c + N = 25 → N < fu → ((x4 = 1 ∧ ∀ a b, 5 * a + b < c → a < b → b < 5 → S.testBit a = true → S.testBit b = true → lM l a &&& k ≠ lM l b &&& k) ∨ (x4 = 0 ∧ ¬ Ap (lM l) (lH l) S k)) → (FL_Mo_ask_36 fu n (nI S) x2 (nI k) x4 (nI c) = some 1 ∧ Ap (lM l) (lH l) S k) ∨ (FL_Mo_ask_36 fu n (nI S) x2 (nI k) x4 (nI c) = some 0 ∧ ¬ Ap (lM l) (lH l) S k) := by
  have h5 := hk.2.1
  have hS5 : S < 2 ^ 5 := Nat.lt_of_lt_of_le hS (Nat.pow_le_pow_right (by omega) h5)
  have bH : ∀ i, S.testBit i = true → i < lH l := by
    intro i hi
    apply Classical.byContradiction
    intro z
    have h1 : 2 ^ lH l ≤ 2 ^ i := Nat.pow_le_pow_right (by omega) (by omega)
    rw [Nat.testBit_lt_two_pow (by omega)] at hi
    exact absurd hi (by decide)
  intro N
  induction N with
  | zero =>
    intro c fu x4 e1 e2 h
    obtain ⟨fu, rfl⟩ : ∃ f, fu = f + 1 := ⟨fu - 1, by omega⟩
    obtain rfl : c = 25 := by omega
    rw [FL_Mo_ask_36, if_pos (by decide)]
    rcases h with ⟨rfl, h⟩ | ⟨rfl, h⟩
    · exact Or.inl ⟨rfl, fun a b ab hb sa sb => h a b (by omega) ab (by omega) sa sb⟩
    · exact Or.inr ⟨rfl, h⟩
  | succ N ih =>
    intro c fu x4 e1 e2 h
    obtain ⟨fu, rfl⟩ : ∃ f, fu = f + 1 := ⟨fu - 1, by omega⟩
    have g1 : ¬ (25 : Int32) ≤ nI c := (nI_ge (by omega) (by omega) : ¬ nI 25 ≤ nI c)
    have d1 : nI c / 5 = nI (c / 5) := pk_div (d := 5) (by omega) (by omega) (by omega)
    have d2 : nI c - nI (c / 5) * 5 = nI (c % 5) := by
      rw [← d1]
      exact pk_rem (d := 5) (by omega) (by omega) (by omega)
    rw [FL_Mo_ask_36, if_neg g1, d1, d2, nI_1]
    rcases h with ⟨rfl, h⟩ | ⟨rfl, h⟩
    · by_cases g2 : c % 5 ≤ c / 5
      · rw [if_pos (nI_le g2 (by omega)), if_neg ne1]
        refine ih (c + 1) fu 1 (by omega) (by omega) (Or.inl ⟨rfl, fun a b hc ab hb sa sb => h a b ?_ ab hb sa sb⟩)
        omega
      · rw [if_neg (nI_ge (by omega) (by omega))]
        rcases bit_cases (S := S) (i := c / 5) (by omega) (by omega) with ⟨b1, b2⟩ | ⟨b1, b2⟩
        · rw [b2, if_pos rfl]
          rcases bit_cases (S := S) (i := c % 5) (by omega) (by omega) with ⟨b3, b4⟩ | ⟨b3, b4⟩
          · have ha := bH _ b1
            have hb := bH _ b3
            have Ma := hk.2.2.2.2.2.2.2.2.1 _ ha
            have Mb := hk.2.2.2.2.2.2.2.2.1 _ hb
            have n1 : ∀ i, i < lH l → n 58 (8 + i) = nI (lM l i) := hm.2.2.2.2.2.2.2.2.2.1
            have hle : (lM l (c / 5) ^^^ lM l (c % 5)) &&& k ≤ k := Nat.and_le_right
            rw [b4, if_pos rfl, if_neg ne1, i_8, nI_add, nI_add, q_in_nI (j := 8 + c / 5) (by omega) (by omega), q_in_nI (j := 8 + c % 5) (by omega) (by omega), nI_clamp (n := 8 + c / 5) (by omega), nI_clamp (n := 8 + c % 5) (by omega), cond_true, cond_true, n1 _ ha, n1 _ hb, nI_xor, nI_and]
            by_cases g3 : lM l (c / 5) &&& k = lM l (c % 5) &&& k
            · have g4 : nI ((lM l (c / 5) ^^^ lM l (c % 5)) &&& k) = 0 := by
                rw [(xor_and _ (by omega) _ (by omega) _ h16).mpr g3]
                rfl
              rw [if_pos g4]
              exact ih (c + 1) fu 0 (by omega) (by omega) (Or.inr ⟨rfl, fun ap => ap _ _ (by omega) hb b1 b3 g3⟩)
            · have g4 : ¬ nI ((lM l (c / 5) ^^^ lM l (c % 5)) &&& k) = 0 := by
                intro z
                have z := (nI_eq (b := 0) (by omega) (by omega)).mp z
                exact g3 ((xor_and _ (by omega) _ (by omega) _ h16).mp z)
              rw [if_neg g4]
              refine ih (c + 1) fu 1 (by omega) (by omega) (Or.inl ⟨rfl, fun a b hc ab hb sa sb => ?_⟩)
              by_cases e : 5 * a + b = c
              · have ea : a = c / 5 := by omega
                have eb : b = c % 5 := by omega
                rw [ea, eb]
                exact g3
              · exact h a b (by omega) ab hb sa sb
          · rw [b4, if_neg (by decide), if_neg ne1]
            refine ih (c + 1) fu 1 (by omega) (by omega) (Or.inl ⟨rfl, fun a b hc ab hb sa sb => ?_⟩)
            by_cases e : 5 * a + b = c
            · have eb : b = c % 5 := by omega
              rw [eb, b3] at sb
              exact absurd sb (by decide)
            · exact h a b (by omega) ab hb sa sb
        · rw [b2, if_neg (by decide), if_neg ne1]
          refine ih (c + 1) fu 1 (by omega) (by omega) (Or.inl ⟨rfl, fun a b hc ab hb sa sb => ?_⟩)
          by_cases e : 5 * a + b = c
          · have ea : a = c / 5 := by omega
            rw [ea, b1] at sa
            exact absurd sa (by decide)
          · exact h a b (by omega) ab hb sa sb
    · have ih := ih (c + 1) fu 0 (by omega) (by omega) (Or.inr ⟨rfl, h⟩)
      simp only [if_true]
      by_cases g2 : nI (c % 5) ≤ nI (c / 5)
      · rw [if_pos g2]
        exact ih
      · rw [if_neg g2]
        by_cases g3 : nI S >>> (nI (c / 5) &&& 31) &&& 1 = 1
        · rw [if_pos g3]
          by_cases g4 : nI S >>> (nI (c % 5) &&& 31) &&& 1 = 1
          · rw [if_pos g4]
            exact ih
          · rw [if_neg g4]
            exact ih
        · rw [if_neg g3]
          exact ih
def Bst (P : Nat → Prop) (b : Int32) : Prop := (b = Int32.ofInt (-9) ∧ ∀ j, j < 16 → ¬ P j) ∨ ∃ v, v < 16 ∧ b = nI v ∧ P v ∧ ∀ j, j < 16 → P j → pcn v < pcn j ∨ (pcn v = pcn j ∧ v ≤ j)
theorem Bst_one {P : Nat → Prop} {a b : Int32} (ha : Bst P a) (hb : Bst P b) : a = b := by
  rcases ha with ⟨a1, a2⟩ | ⟨v, v1, v2, v3, v4⟩
  · rcases hb with ⟨b1, b2⟩ | ⟨w, w1, w2, w3, w4⟩
    · rw [a1, b1]
    · exact absurd w3 (a2 w w1)
  · rcases hb with ⟨b1, b2⟩ | ⟨w, w1, w2, w3, w4⟩
    · exact absurd v3 (b2 v v1)
    · have h1 := v4 w w1 w3
      have h2 := w4 v v1 v3
      rw [v2, w2, show v = w by omega]
theorem pc16 : ∀ w, w < 16 → pcn w ≤ 4 := by decide +kernel
theorem E_ask {l : aL} {m n : Nat → Nat → Int32} (hl : aLok l ∧ LCl l m ∧ LMo l n) (a : Int32) : ∃ r, F_AT_ask m a = some r ∧ F_Mo_ask n a = some r := by
  have h5 := hl.1.2.1
  have hfu := qFU_big
  have hp : 2 ^ lH l ≤ 2 ^ 5 := Nat.pow_le_pow_right (by omega) h5
  have hp0 : 0 < 2 ^ lH l := Nat.pow_pos (by omega)
  unfold F_AT_ask F_Mo_ask
  rw [hl.2.1.2.1, hl.2.2.2.1, nI_shl1 _ (by omega)]
  rcases ix a (2 ^ lH l) (by omega) with h | ⟨S, hS, rfl⟩
  · rw [in_bad (by omega) h, Option.bind_some, if_pos rfl]
    by_cases h0 : a < 0
    · rw [if_pos h0]
      exact ⟨_, rfl, rfl⟩
    · rw [if_neg h0, if_neg (Int32.not_lt.mpr (h.resolve_left h0))]
      exact ⟨_, rfl, rfl⟩
  · rw [in_ok (by omega) hS, Option.bind_some, if_neg ne1, if_neg (nI_pos (by omega)), if_pos (nI_lt hS (by omega))]
    -- each marks
    have cl : ∀ k, k < 16 → (F_La_areToldApart_9 m (nI S) (nI k) = some 1 ∧ Ap (lM l) (lH l) S k) ∨ (F_La_areToldApart_9 m (nI S) (nI k) = some 0 ∧ ¬ Ap (lM l) (lH l) S k) := by
      intro k hk
      unfold F_La_areToldApart_9
      rcases apart_cls hl.1 hl.2.1 (S := S) (k := k) (by omega) hk (lH l) 0 qFU 0 (by omega) (by omega) (by omega) (fun v => by simp) (fun a b _ hb => absurd hb (by omega)) with ⟨h1, h2⟩ | ⟨h1, h2⟩
      · left
        refine ⟨?_, h2⟩
        rw [show FL_La_areToldApart_9_5 qFU m (nI S) (nI k) 0 0 = _ from h1]
        rfl
      · right
        refine ⟨?_, h2⟩
        rw [show FL_La_areToldApart_9_5 qFU m (nI S) (nI k) 0 0 = _ from h1]
        rfl
    have rf : ∀ k x2, k < 16 → (FL_Mo_ask_36 qFU n (nI S) x2 (nI k) 1 0 = some 1 ∧ Ap (lM l) (lH l) S k) ∨ (FL_Mo_ask_36 qFU n (nI S) x2 (nI k) 1 0 = some 0 ∧ ¬ Ap (lM l) (lH l) S k) := fun k x2 hk => apart_ref hl.1 hl.2.2 x2 hS hk 25 0 qFU 1 (by omega) (by omega) (Or.inl ⟨rfl, fun a b hc => absurd hc (by omega)⟩)
    have A : ∀ N k fu x2, k + N = 16 → N < fu → Bst (fun j => Ap (lM l) (lH l) S j ∧ j < k) x2 → ∃ r, FL_AT_ask_24 fu m (nI S) x2 (nI k) = some r ∧ Bst (fun j => Ap (lM l) (lH l) S j) r := by
      intro N
      induction N with
      | zero =>
        intro k fu x2 e1 e2 hb
        obtain ⟨fu, rfl⟩ : ∃ f, fu = f + 1 := ⟨fu - 1, by omega⟩
        obtain rfl : k = 16 := by omega
        rw [FL_AT_ask_24, if_pos (by decide)]
        refine ⟨_, rfl, ?_⟩
        rcases hb with ⟨a1, a2⟩ | ⟨v, v1, v2, v3, v4⟩
        · exact Or.inl ⟨a1, fun j hj z => a2 j hj ⟨z, hj⟩⟩
        · exact Or.inr ⟨v, v1, v2, v3.1, fun j hj z => v4 j hj ⟨z, hj⟩⟩
      | succ N ih =>
        intro k fu x2 e1 e2 hb
        obtain ⟨fu, rfl⟩ : ∃ f, fu = f + 1 := ⟨fu - 1, by omega⟩
        have g1 : ¬ (15 : Int32) < nI k := (nI_nlt (by omega) (by omega) : ¬ nI 15 < nI k)
        rw [FL_AT_ask_24, if_neg g1, nI_1]
        rcases hb with ⟨a1, a2⟩ | ⟨v, v1, v2, v3, v4⟩
        · rw [if_pos a1]
          rcases cl k (by omega) with ⟨c1, c2⟩ | ⟨c1, c2⟩
          · rw [c1, Option.bind_some, if_neg ne1]
            refine ih (k + 1) fu _ (by omega) (by omega) (Or.inr ⟨k, by omega, rfl, ⟨c2, by omega⟩, fun j hj z => ?_⟩)
            by_cases e : j = k
            · subst e
              exact Or.inr ⟨rfl, Nat.le_refl _⟩
            · exact absurd ⟨z.1, by omega⟩ (a2 j hj)
          · rw [c1, Option.bind_some, if_pos rfl]
            refine ih (k + 1) fu _ (by omega) (by omega) (Or.inl ⟨a1, fun j hj z => ?_⟩)
            by_cases e : j = k
            · subst e
              exact c2 z.1
            · exact a2 j hj ⟨z.1, by omega⟩
        · have vk := v3.2
          have p1 := pc16 v (by omega)
          have p2 := pc16 k (by omega)
          rw [v2, if_neg (nI_neg9 (by omega)), bitCount_ok k (by omega), bitCount_ok v (by omega), Option.bind_some, Option.bind_some]
          by_cases g2 : pcn v ≤ pcn k
          · rw [if_pos (nI_le g2 (by omega))]
            refine ih (k + 1) fu _ (by omega) (by omega) (Or.inr ⟨v, v1, rfl, ⟨v3.1, by omega⟩, fun j hj z => ?_⟩)
            by_cases e : j = k
            · subst e
              omega
            · exact v4 j hj ⟨z.1, by omega⟩
          · rw [if_neg (nI_ge (by omega) (by omega))]
            rcases cl k (by omega) with ⟨c1, c2⟩ | ⟨c1, c2⟩
            · rw [c1, Option.bind_some, if_neg ne1]
              refine ih (k + 1) fu _ (by omega) (by omega) (Or.inr ⟨k, by omega, rfl, ⟨c2, by omega⟩, fun j hj z => ?_⟩)
              by_cases e : j = k
              · subst e
                exact Or.inr ⟨rfl, Nat.le_refl _⟩
              · have := v4 j hj ⟨z.1, by omega⟩
                omega
            · rw [c1, Option.bind_some, if_pos rfl]
              refine ih (k + 1) fu _ (by omega) (by omega) (Or.inr ⟨v, v1, rfl, ⟨v3.1, by omega⟩, fun j hj z => ?_⟩)
              by_cases e : j = k
              · subst e
                exact absurd z.1 c2
              · exact v4 j hj ⟨z.1, by omega⟩
    have B : ∀ k fu x2, k ≤ 16 → k < fu → Bst (fun j => Ap (lM l) (lH l) S j ∧ k ≤ j) x2 → ∃ r, FL_Mo_ask_26 fu n (nI S) x2 (nI k - 1) = some r ∧ Bst (fun j => Ap (lM l) (lH l) S j) r := by
      intro k
      induction k with
      | zero =>
        intro fu x2 e1 e2 hb
        obtain ⟨fu, rfl⟩ : ∃ f, fu = f + 1 := ⟨fu - 1, by omega⟩
        rw [FL_Mo_ask_26, if_pos (by decide)]
        refine ⟨_, rfl, ?_⟩
        rcases hb with ⟨a1, a2⟩ | ⟨v, v1, v2, v3, v4⟩
        · exact Or.inl ⟨a1, fun j hj z => a2 j hj ⟨z, by omega⟩⟩
        · exact Or.inr ⟨v, v1, v2, v3.1, fun j hj z => v4 j hj ⟨z, by omega⟩⟩
      | succ k ih =>
        intro fu x2 e1 e2 hb
        obtain ⟨fu, rfl⟩ : ∃ f, fu = f + 1 := ⟨fu - 1, by omega⟩
        have hm1 : nI k + Int32.ofInt (-1) = nI k - 1 := by
          rw [Int32.sub_eq_add_neg]
          rfl
        rw [FL_Mo_ask_26, nI_pred, if_neg (nI_pos (by omega)), hm1]
        rcases rf k x2 (by omega) with ⟨c1, c2⟩ | ⟨c1, c2⟩
        · rw [c1, Option.bind_some, if_neg ne1]
          rcases hb with ⟨a1, a2⟩ | ⟨v, v1, v2, v3, v4⟩
          · rw [if_pos a1]
            refine ih fu _ (by omega) (by omega) (Or.inr ⟨k, by omega, rfl, ⟨c2, by omega⟩, fun j hj z => ?_⟩)
            by_cases e : j = k
            · subst e
              exact Or.inr ⟨rfl, Nat.le_refl _⟩
            · exact absurd ⟨z.1, by omega⟩ (a2 j hj)
          · have vk := v3.2
            have p1 := pc16 v (by omega)
            have p2 := pc16 k (by omega)
            rw [v2, if_neg (nI_neg9 (by omega)), ones_ok k (by omega), ones_ok v (by omega), Option.bind_some, Option.bind_some]
            by_cases g2 : pcn v < pcn k
            · rw [if_pos (nI_lt g2 (by omega))]
              refine ih fu _ (by omega) (by omega) (Or.inr ⟨v, v1, rfl, ⟨v3.1, by omega⟩, fun j hj z => ?_⟩)
              by_cases e : j = k
              · subst e
                omega
              · exact v4 j hj ⟨z.1, by omega⟩
            · rw [if_neg (nI_nlt (by omega) (by omega))]
              refine ih fu _ (by omega) (by omega) (Or.inr ⟨k, by omega, rfl, ⟨c2, by omega⟩, fun j hj z => ?_⟩)
              by_cases e : j = k
              · subst e
                exact Or.inr ⟨rfl, Nat.le_refl _⟩
              · have := v4 j hj ⟨z.1, by omega⟩
                omega
        · rw [c1, Option.bind_some, if_pos rfl]
          refine ih fu _ (by omega) (by omega) ?_
          rcases hb with ⟨a1, a2⟩ | ⟨v, v1, v2, v3, v4⟩
          · refine Or.inl ⟨a1, fun j hj z => ?_⟩
            by_cases e : j = k
            · subst e
              exact c2 z.1
            · exact a2 j hj ⟨z.1, by omega⟩
          · refine Or.inr ⟨v, v1, v2, ⟨v3.1, by omega⟩, fun j hj z => ?_⟩
            by_cases e : j = k
            · subst e
              exact absurd z.1 c2
            · exact v4 j hj ⟨z.1, by omega⟩
    obtain ⟨r1, q1, q2⟩ := A 16 0 qFU (Int32.ofInt (-9)) (by omega) (by omega) (Or.inl ⟨rfl, fun j _ z => absurd z.2 (by omega)⟩)
    obtain ⟨r2, q3, q4⟩ := B 16 qFU (Int32.ofInt (-9)) (by omega) (by omega) (Or.inl ⟨rfl, fun j hj z => absurd z.2 (by omega)⟩)
    rw [Bst_one q4 q2] at q3
    rw [show FL_AT_ask_24 qFU m (nI S) (Int32.ofInt (-9)) 0 = some r1 from q1, show FL_Mo_ask_26 qFU n (nI S) (Int32.ofInt (-9)) 15 = some r1 from q3]
    exact ⟨_, rfl, rfl⟩
