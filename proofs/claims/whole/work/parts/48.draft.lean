/-! the text: what is told so far -/
def dOk (l : aL) : Prop := (2 ≤ lP l ∧ lP l ≤ 8) ∧ lH l ≤ 5 ∧ lK l ≤ 8 ∧ (1 ≤ lS l ∧ lS l ≤ 9) ∧ lT l ≤ 3 ∧ lR l ≤ 99 ∧ (∀ k, k < 64 → lF l k ≤ 9) ∧ (∀ k, k < 8 → lV l k < 256) ∧ (∀ h, h < lH l → lM l h ≤ 15) ∧ (∀ i, i < lK l → lC l i < lP l) ∧ (∀ a b, a < 8 → b < 8 → lF l (8 * a + b) = lF l (8 * b + a)) ∧ (∀ a b, a < 8 → b < 8 → lP l ≤ a → lF l (8 * a + b) = 0)
def dCl (l : aL) (m : Nat → Nat → Int32) : Prop := m 3 0 = nI (lP l) ∧ m 3 1 = nI (lH l) ∧ m 3 2 = nI (lK l) ∧ m 3 3 = nI (lS l) ∧ m 3 4 = nI (lT l) ∧ m 3 5 = nI (lR l) ∧ (∀ k, k < 64 → m 4 k = nI (lF l k)) ∧ (∀ k, k < 8 → m 6 k = nI (lV l k)) ∧ (∀ h, h < lH l → m 7 h = nI (lM l h)) ∧ (∀ i, i < lK l → m 8 i = nI (lC l i))
def dMo (l : aL) (it : Nat) (n : Nat → Nat → Int32) : Prop := n 59 0 = nI (lP l) ∧ n 59 1 = nI (lH l) ∧ n 59 2 = nI (lK l) ∧ n 59 3 = nI (lS l) ∧ n 59 4 = nI (lT l) ∧ n 59 5 = nI (lR l) ∧ n 59 6 = nI it ∧ (∀ k, k < 64 → n 59 (21 + k) = nI (lF l k)) ∧ (∀ k, k < 8 → n 59 (85 + k) = nI (lV l k)) ∧ (∀ h, h < lH l → n 59 (8 + h) = nI (lM l h)) ∧ (∀ i, i < lK l → n 59 (13 + i) = nI (lC l i))
def dTd (m n : Nat → Nat → Int32) : Prop := ∃ A O, m 1 6 = nI A ∧ A < 2 ^ 26 ∧ n 59 7 = nI O ∧ O < 16 ∧ A.testBit 18 = O.testBit 0 ∧ A.testBit 19 = O.testBit 1 ∧ A.testBit 17 = O.testBit 2 ∧ A.testBit 2 = O.testBit 3
def dA (l : aL) (it : Nat) (m n : Nat → Nat → Int32) : Prop := dOk l ∧ dCl l m ∧ dMo l it n ∧ dTd m n
theorem dCl.fr {l : aL} {m m' : Nat → Nat → Int32} (h : dCl l m) (e3 : m' 3 = m 3) (e4 : m' 4 = m 4) (e6 : m' 6 = m 6) (e7 : m' 7 = m 7) (e8 : m' 8 = m 8) : dCl l m' := by
  unfold dCl at h ⊢
  rw [e3, e4, e6, e7, e8]
  exact h
theorem dMo.fr {l : aL} {it : Nat} {n n' : Nat → Nat → Int32} (h : dMo l it n) (e : n' 59 = n 59) : dMo l it n' := by
  unfold dMo at h ⊢
  rw [e]
  exact h
theorem dTd.fr {m n m' n' : Nat → Nat → Int32} (h : dTd m n) (e1 : m' 1 6 = m 1 6) (e2 : n' 59 7 = n 59 7) : dTd m' n' := by
  unfold dTd at h ⊢
  rw [e1, e2]
  exact h
theorem dA.fr {l : aL} {it : Nat} {m n m' n' : Nat → Nat → Int32} (h : dA l it m n) (h1 : frC m m') (h2 : frM n n') : dA l it m' n' := ⟨h.1, h.2.1.fr (h1.1 _ (by omega)) (h1.1 _ (by omega)) (h1.1 _ (by omega)) (h1.1 _ (by omega)) (h1.1 _ (by omega)), h.2.2.1.fr (h2.1 _ (by omega)), h.2.2.2.fr (h1.2 _ (by omega)) (by rw [h2.1 _ (by omega)])⟩
def frCd (m m' : Nat → Nat → Int32) : Prop := (∀ k, k ≠ 1 → k ≠ 3 → k ≠ 4 → k ≠ 6 → k ≠ 7 → k ≠ 8 → m' k = m k) ∧ ∀ j, (j < 3 ∨ 7 < j) → m' 1 j = m 1 j
def frMd (n n' : Nat → Nat → Int32) : Prop := (∀ k, k ≠ 56 → k ≠ 59 → n' k = n k) ∧ ∀ j, (j < 11 ∨ 14 < j) → n' 56 j = n 56 j
theorem frC.d {m m' : Nat → Nat → Int32} (h : frC m m') : frCd m m' := ⟨fun k h1 _ _ _ _ _ => h.1 k h1, fun j hj => h.2 j (by omega)⟩
theorem frM.d {n n' : Nat → Nat → Int32} (h : frM n n') : frMd n n' := ⟨fun k h1 _ => h.1 k h1, fun j hj => h.2 j hj⟩
theorem frCd.tr {a b c : Nat → Nat → Int32} (h1 : frCd a b) (h2 : frCd b c) : frCd a c := ⟨fun k k1 k2 k3 k4 k5 k6 => (h2.1 k k1 k2 k3 k4 k5 k6).trans (h1.1 k k1 k2 k3 k4 k5 k6), fun j hj => (h2.2 j hj).trans (h1.2 j hj)⟩
theorem frMd.tr {a b c : Nat → Nat → Int32} (h1 : frMd a b) (h2 : frMd b c) : frMd a c := ⟨fun k k1 k2 => (h2.1 k k1 k2).trans (h1.1 k k1 k2), fun j hj => (h2.2 j hj).trans (h1.2 j hj)⟩
theorem frCd.w {a b : Nat → Nat → Int32} (h1 : frCd a b) {k j : Nat} (x : Int32) (hk : k = 3 ∨ k = 4 ∨ k = 6 ∨ k = 7 ∨ k = 8 ∨ (k = 1 ∧ j = 6)) : frCd a (q_w b k j x) := ⟨fun k' k1 k2 k3 k4 k5 k6 => by rw [q_w_row _ _ _ (by omega)]; exact h1.1 k' k1 k2 k3 k4 k5 k6, fun i hi => by rw [q_w_ne _ _ (by omega)]; exact h1.2 i hi⟩
theorem frMd.w {a b : Nat → Nat → Int32} (h1 : frMd a b) (j : Nat) (x : Int32) : frMd a (q_w b 59 j x) := ⟨fun k' k1 k2 => by rw [q_w_row _ _ _ (by omega)]; exact h1.1 k' k1 k2, fun i hi => by rw [q_w_ne _ _ (by omega)]; exact h1.2 i hi⟩
theorem frCd.rf (m : Nat → Nat → Int32) : frCd m m := (frC.rf m).d
theorem frMd.rf (m : Nat → Nat → Int32) : frMd m m := (frM.rf m).d
theorem rText.frd {len : Nat} {tx : Nat → Nat} {m n m' n' : Nat → Nat → Int32} (h : rText len tx m n) (h1 : frCd m m') (h2 : frMd n n') : rText len tx m' n' := h.of (h1.2 _ (by omega)) (h1.1 _ (by omega) (by omega) (by omega) (by omega) (by omega) (by omega)) (h2.2 _ (by omega)) (h2.1 _ (by omega) (by omega))
/-- the same, but for the rows of tokens -/
def frCe (m m' : Nat → Nat → Int32) : Prop := (∀ k, k ≠ 1 → k ≠ 3 → k ≠ 4 → k ≠ 6 → k ≠ 7 → k ≠ 8 → k < 70 → m' k = m k) ∧ ∀ j, (j < 3 ∨ 7 < j) → m' 1 j = m 1 j
theorem frCd.e {m m' : Nat → Nat → Int32} (h : frCd m m') : frCe m m' := ⟨fun k k1 k2 k3 k4 k5 k6 _ => h.1 k k1 k2 k3 k4 k5 k6, h.2⟩
theorem frCe.tr {a b c : Nat → Nat → Int32} (h1 : frCe a b) (h2 : frCe b c) : frCe a c := ⟨fun k k1 k2 k3 k4 k5 k6 k7 => (h2.1 k k1 k2 k3 k4 k5 k6 k7).trans (h1.1 k k1 k2 k3 k4 k5 k6 k7), fun j hj => (h2.2 j hj).trans (h1.2 j hj)⟩
theorem rText.fre {len : Nat} {tx : Nat → Nat} {m n m' n' : Nat → Nat → Int32} (h : rText len tx m n) (h1 : frCe m m') (h2 : frMd n n') : rText len tx m' n' := h.of (h1.2 _ (by omega)) (h1.1 _ (by omega) (by omega) (by omega) (by omega) (by omega) (by omega) (by omega)) (h2.2 _ (by omega)) (h2.1 _ (by omega) (by omega))
theorem tRl.of {len : Nat} {tx : Nat → Nat} {b e : Nat} {m n m' n' : Nat → Nat → Int32} (h : tRl len tx m n b e) (e5 : m' 1 5 = m 1 5) (e70 : m' 70 = m 70) (e71 : m' 71 = m 71) (e56 : n' 56 = n 56) : tRl len tx m' n' b e := by
  unfold tRl fpl tkS at h ⊢
  rw [e5, e70, e71, e56]
  exact h
theorem isl59 : isl 59 = false := by decide
theorem tRl_stop {len : Nat} {tx : Nat → Nat} {b e : Nat} {m n : Nat → Nat → Int32} (h : tRl len tx m n b e) : m 70 (m 1 5).toNatClampNeg = 59 ↔ n 56 12 = 3 := by
  rcases h.2.2.2.2.2.2 with ⟨h1, h2⟩ | ⟨_, ⟨v, hv, h1, h2, _⟩ | ⟨h1, h2, _⟩ | ⟨c, h0, h1, _, h2⟩⟩
  · rw [h1, h2]
    decide
  · rw [h1, h2]
    exact ⟨fun z => absurd ((nI_eq (b := 59) (by omega) (by omega)).mp z) (by omega), fun z => absurd z (by decide)⟩
  · rw [h1, h2]
    decide
  · rw [h1]
    have e1 : nI c = 59 ↔ c = 59 := nI_eq (b := 59) (by omega) (by omega)
    rw [e1]
    rcases h2 with ⟨h3, h4⟩ | ⟨h3, h4⟩ | ⟨h3, h4, h5⟩
    · rw [h3]
      constructor
      · intro z
        rw [z, isl59] at h4
        exact absurd h4 (by decide)
      · intro z
        exact absurd z (by decide)
    · rw [h3]
      exact ⟨fun _ => rfl, fun _ => h4⟩
    · rw [h3]
      exact ⟨fun z => absurd z h5, fun z => absurd z (by decide)⟩
theorem tRl_end {len : Nat} {tx : Nat → Nat} {b e : Nat} {m n : Nat → Nat → Int32} (h : tRl len tx m n b e) : m 70 (m 1 5).toNatClampNeg = 256 ↔ n 56 12 = 0 := by
  rcases h.2.2.2.2.2.2 with ⟨h1, h2⟩ | ⟨_, ⟨v, hv, h1, h2, _⟩ | ⟨h1, h2, _⟩ | ⟨c, h0, h1, _, h2⟩⟩
  · rw [h1, h2]
    decide
  · rw [h1, h2]
    exact ⟨fun z => absurd ((nI_eq (b := 256) (by omega) (by omega)).mp z) (by omega), fun z => absurd z (by decide)⟩
  · rw [h1, h2]
    decide
  · rw [h1]
    have e1 : nI c = 256 ↔ c = 256 := nI_eq (b := 256) (by omega) (by omega)
    rw [e1]
    rcases h2 with ⟨h3, h4⟩ | ⟨h3, h4⟩ | ⟨h3, h4, h5⟩
    all_goals
      rw [h3]
      exact ⟨fun z => absurd z (by omega), fun z => absurd z (by decide)⟩
theorem tRl_adv {len : Nat} {tx : Nat → Nat} {b e : Nat} {m n : Nat → Nat → Int32} (h : tRl len tx m n b e) (h2 : ¬ m 70 (m 1 5).toNatClampNeg = 256) : b < e := by
  rcases h.2.2.2.2.2.2 with ⟨h1, _⟩ | ⟨h1, _⟩
  · exact absurd h1 h2
  · exact h1
theorem tok_neg : ∀ c, c < 258 → nI c - 258 < 0 := by decide +kernel
theorem tok_num {v : Nat} (h : v ≤ 99) : nI (258 + v) - 258 = nI v := by rw [i_258, pk_sub (by omega), show 258 + v - 258 = v by omega]
/-- a number in its bounds, or not -/
theorem num_ok {len : Nat} {tx : Nat → Nat} {b e : Nat} {m n : Nat → Nat → Int32} (h : tRl len tx m n b e) {lo hi : Nat} (hl : lo < 100) (hh : hi < 100) : (∃ v, lo ≤ v ∧ v ≤ hi ∧ m 70 (m 1 5).toNatClampNeg = nI (258 + v) ∧ b < e ∧ n 56 12 = 2 ∧ n 56 14 = nI v ∧ F_Mo_isNumber n (nI lo) (nI hi) = some 1 ∧ ∀ m2, gOn m = some m2 → F_Re_takeNumber_1 m (nI lo) (nI hi) = some (nI v, m2)) ∨ (F_Mo_isNumber n (nI lo) (nI hi) = some 0 ∧ F_Re_takeNumber_1 m (nI lo) (nI hi) = some (Int32.ofInt (-9), m)) := by
  unfold F_Mo_isNumber F_Re_takeNumber_1
  rw [h.1.q, cond_true]
  rcases h.2.2.2.2.2.2 with ⟨h1, h2⟩ | ⟨hbe, ⟨v, h0, h1, h2, h14⟩ | ⟨h1, h2, h14⟩ | ⟨c, h0, h1, _, h2⟩⟩
  · right
    rw [h1, h2, if_neg (by decide), if_pos (show (256 : Int32) - 258 < 0 by decide)]
    exact ⟨rfl, rfl⟩
  · rw [h1, h2, if_pos rfl, h14, tok_num h0, if_neg (nI_pos (by omega))]
    unfold F_Mo_in
    by_cases z : v < lo
    · right
      rw [if_pos (nI_lt z (by omega)), if_pos (nI_lt z (by omega))]
      exact ⟨rfl, rfl⟩
    · have g1 : ¬ nI v < nI lo := nI_nlt (by omega) (by omega)
      rw [if_neg g1, if_neg g1]
      by_cases y : hi < v
      · right
        rw [if_pos (nI_lt y (by omega)), if_neg (nI_ge y (by omega))]
        exact ⟨rfl, rfl⟩
      · left
        rw [if_neg (nI_nlt (by omega) (by omega)), if_pos (nI_le (by omega) (by omega))]
        refine ⟨v, by omega, by omega, rfl, hbe, rfl, rfl, rfl, fun m2 h => ?_⟩
        unfold gOn at h
        rw [← Option.some.inj h]
  · right
    rw [h1, h2, if_pos rfl, if_pos (show (257 : Int32) - 258 < 0 by decide), h14]
    unfold F_Mo_in
    refine ⟨?_, rfl⟩
    by_cases z : 100 < lo
    · omega
    · rw [if_neg (nI_nlt (by omega) (by omega)), if_pos (nI_lt hh (by omega))]
      rfl
  · right
    have e2 : ¬ n 56 12 = 2 := by
      rcases h2 with ⟨h3, _⟩ | ⟨h3, _⟩ | ⟨h3, _⟩
      all_goals
        rw [h3]
        decide
    rw [h1, if_neg e2, if_pos (tok_neg c (by omega))]
    exact ⟨rfl, rfl⟩
/-- how a body ends -/
def bOut (len : Nat) (tx : Nat → Nat) (it b : Nat) (m n : Nat → Nat → Int32) (rc rm : Option (Int32 × (Nat → Nat → Int32))) : Prop := ∃ mB nB, frCd m mB ∧ frMd n nB ∧ (((rc = some (0, mB) ∨ (rc = some (1, mB) ∧ ¬ mB 70 (mB 1 5).toNatClampNeg = 59)) ∧ (rm = some (0, nB) ∨ (rm = some (1, nB) ∧ ¬ nB 56 12 = 3)) ∧ ∃ p, p ≤ 200 ∧ fpl mB p ∧ nB 56 13 = nI p) ∨ (rc = some (1, mB) ∧ rm = some (1, nB) ∧ ∃ l' b' e', b < b' ∧ tRl len tx mB nB b' e' ∧ dA l' it mB nB))
theorem bOut.fail {len : Nat} {tx : Nat → Nat} {it b : Nat} {m n mB nB : Nat → Nat → Int32} {rc rm : Option (Int32 × (Nat → Nat → Int32))} {b' e' : Nat} (hl : len ≤ 200) (h1 : frCd m mB) (h2 : frMd n nB) (h3 : rc = some (0, mB)) (h4 : rm = some (0, nB)) (ht : tRl len tx mB nB b' e') : bOut len tx it b m n rc rm := ⟨mB, nB, h1, h2, Or.inl ⟨Or.inl h3, Or.inl h4, b', by have := ht.2.2.2.2.1; have := ht.2.2.2.2.2.1; omega, ht.1, ht.2.2.2.1⟩⟩
/-- what a letter asks of one number, and where it comes to -/
theorem one_ok {len : Nat} {tx : Nat → Nat} {it b lo hi pl : Nat} {m n m1 n1 : Nat → Nat → Int32} {b1 e1 : Nat} {rm : Option (Int32 × (Nat → Nat → Int32))} (ht : rText len tx m1 n1) (hr : tRl len tx m1 n1 b1 e1) (hb : b < b1) (hl : lo < 100) (hh : hi < 100) (f1 : frCd m m1) (f2 : frMd n n1) (wr : Int32 → (Nat → Nat → Int32) → (Nat → Nat → Int32)) (hwr : ∀ x a, frCd a (wr x a)) (hwr1 : ∀ x a k, k ≠ 3 → (wr x a) k = a k)
    (hpl : pl < 93) (hm : rm = Option.bind (F_Mo_isNumber n1 (nI lo) (nI hi)) (fun r3 => if r3 = 0 then some (0, n1) else Option.bind (F_Mo_token (q_w n1 59 pl (n1 56 14))) (fun m7 => some (1, m7))))
    (hd : ∀ v m2 n2, lo ≤ v → v ≤ hi → frC m1 m2 → frM (q_w n1 59 pl (nI v)) n2 → ∃ l', dA l' it (wr (nI v) m2) n2) :
    bOut len tx it b m n (Option.bind (F_Re_takeNumber_1 m1 (nI lo) (nI hi)) (fun (r, m2) => if r = Int32.ofInt (-9) then some (0, wr r m2) else some (1, wr r m2))) rm := by
  have l2 := ht.2.2.1
  rcases num_ok hr hl hh with ⟨v, v1, v2, v3, v4, v5, v6, v7, v8⟩ | ⟨v1, v2⟩
  · obtain ⟨m2, n2, b2, e2, a1, a2, a3, a4, a5, a6⟩ := next_ok (nw := q_w n1 59 pl (nI v)) ht hr v4 (q_w_row _ _ _ (by omega)) (q_w_row _ _ _ (by omega))
    obtain ⟨l', hd⟩ := hd v m2 n2 v1 v2 a3 a4
    have be := hr.2.2.2.2.1
    refine ⟨wr (nI v) m2, n2, (f1.tr a3.d).tr (hwr _ _), (f2.w _ _).tr a4.d, Or.inr ⟨?_, ?_, l', b2, e2, by omega, a6.of (by rw [hwr1 _ _ _ (by omega)]) (hwr1 _ _ _ (by omega)) (hwr1 _ _ _ (by omega)) rfl, hd⟩⟩
    · rw [v8 m2 a1, Option.bind_some]
      dsimp only
      rw [if_neg (nI_neg9 (by omega))]
    · rw [hm, v7, Option.bind_some, if_neg ne1, v6, a2]
      rfl
  · refine bOut.fail (mB := wr (Int32.ofInt (-9)) m1) (nB := n1) l2 (f1.tr (hwr _ _)) f2 ?_ ?_ (hr.of (by rw [hwr1 _ _ _ (by omega)]) (hwr1 _ _ _ (by omega)) (hwr1 _ _ _ (by omega)) rfl)
    · rw [v2, Option.bind_some]
      dsimp only
      rw [if_pos rfl]
    · rw [hm, v1]
      rfl
