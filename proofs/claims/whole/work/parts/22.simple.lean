/-! the plain calls -/
theorem g_bad {a p : Int32} {k : Nat} (hp : p = nI k) (hk : k < 2 ^ 30) (h : a < 0 ∨ nI k ≤ a) : (if a < 0 then (some 0 : Option Int32) else if p ≤ a then some 0 else some 1) = some 0 := by
  subst hp
  by_cases h0 : a < 0
  · rw [if_pos h0]
  · rw [if_neg h0, if_pos (h.resolve_left h0)]
theorem g_ok {p : Int32} {k j : Nat} (hp : p = nI k) (hk : k < 2 ^ 30) (h : j < k) : (if nI j < 0 then (some 0 : Option Int32) else if p ≤ nI j then some 0 else some 1) = some 1 := by
  subst hp
  rw [if_neg (nI_pos (by omega)), if_neg (nI_ge h (by omega))]
theorem hasPlace_bad {m : Nat → Nat → Int32} {a : Int32} {k : Nat} (hp : m 9 0 = nI k) (hk : k < 2 ^ 30) (h : a < 0 ∨ nI k ≤ a) : F_La_hasPlace_9 m a = some 0 := g_bad hp hk h
theorem hasPlace_ok {m : Nat → Nat → Int32} {k j : Nat} (hp : m 9 0 = nI k) (hk : k < 2 ^ 30) (h : j < k) : F_La_hasPlace_9 m (nI j) = some 1 := g_ok hp hk h
theorem hasHog_bad {m : Nat → Nat → Int32} {a : Int32} {k : Nat} (hp : m 9 1 = nI k) (hk : k < 2 ^ 30) (h : a < 0 ∨ nI k ≤ a) : F_La_hasHedgehog_9 m a = some 0 := g_bad hp hk h
theorem hasHog_ok {m : Nat → Nat → Int32} {k j : Nat} (hp : m 9 1 = nI k) (hk : k < 2 ^ 30) (h : j < k) : F_La_hasHedgehog_9 m (nI j) = some 1 := g_ok hp hk h
theorem hasPoint_bad {m : Nat → Nat → Int32} {a : Int32} {k : Nat} (hp : m 39 0 = nI k) (hk : k < 2 ^ 30) (h : a < 0 ∨ nI k ≤ a) : F_Ru_hasPoint_39 m a = some 0 := g_bad hp hk h
theorem hasPoint_ok {m : Nat → Nat → Int32} {k j : Nat} (hp : m 39 0 = nI k) (hk : k < 2 ^ 30) (h : j < k) : F_Ru_hasPoint_39 m (nI j) = some 1 := g_ok hp hk h
theorem isPlace_bad {n : Nat → Nat → Int32} {a : Int32} {k : Nat} (hp : n 58 0 = nI k) (hk : k < 2 ^ 30) (h : a < 0 ∨ nI k ≤ a) : F_Mo_isPlace n a = some 0 := by
  unfold F_Mo_isPlace
  rw [hp, in_bad hk h]
  rfl
theorem isPlace_ok {n : Nat → Nat → Int32} {k j : Nat} (hp : n 58 0 = nI k) (hk : k < 2 ^ 30) (h : j < k) : F_Mo_isPlace n (nI j) = some 1 := by
  unfold F_Mo_isPlace
  rw [hp, in_ok hk h]
  rfl
theorem isHog_bad {n : Nat → Nat → Int32} {a : Int32} {k : Nat} (hp : n 58 1 = nI k) (hk : k < 2 ^ 30) (h : a < 0 ∨ nI k ≤ a) : F_Mo_isHog n a = some 0 := by
  unfold F_Mo_isHog
  rw [hp, in_bad hk h]
  rfl
theorem isHog_ok {n : Nat → Nat → Int32} {k j : Nat} (hp : n 58 1 = nI k) (hk : k < 2 ^ 30) (h : j < k) : F_Mo_isHog n (nI j) = some 1 := by
  unfold F_Mo_isHog
  rw [hp, in_ok hk h]
  rfl
theorem isPoint_bad {n : Nat → Nat → Int32} {a : Int32} {k : Nat} (hp : n 58 2 = nI k) (hk : k < 2 ^ 30) (h : a < 0 ∨ nI k ≤ a) : F_Mo_isPoint n a = some 0 := by
  unfold F_Mo_isPoint
  rw [hp, in_bad hk h]
  rfl
theorem isPoint_ok {n : Nat → Nat → Int32} {k j : Nat} (hp : n 58 2 = nI k) (hk : k < 2 ^ 30) (h : j < k) : F_Mo_isPoint n (nI j) = some 1 := by
  unfold F_Mo_isPoint
  rw [hp, in_ok hk h]
  rfl
theorem pair_nI (a b : Nat) : F_La_pair (nI a) (nI b) = some (nI (8 * a + b)) := by
  unfold F_La_pair
  rw [i_8, pk_mul, nI_add, Nat.mul_comm]
theorem furrowBetween_ok {m : Nat → Nat → Int32} {a b : Nat} (ha : a < 8) (hb : b < 8) : F_La_furrowBetween_9 m (nI a) (nI b) = some (m 10 (8 * a + b)) := by
  unfold F_La_furrowBetween_9
  rw [pair_nI, Option.bind_some, q_in_nI (by omega) (by omega), nI_clamp (by omega)]
  rfl
theorem ne1 : ¬ (1 : Int32) = 0 := by decide
theorem E_furrow {l : aL} {m n : Nat → Nat → Int32} (hl : aLok l ∧ LCl l m ∧ LMo l n) (a b : Int32) : ∃ r, F_AT_furrow m a b = some r ∧ F_Mo_furrow n a b = some r := by
  obtain ⟨hk, hc, hm⟩ := hl
  have hP : lP l < 2 ^ 30 := by have := hk.1.2; omega
  unfold F_AT_furrow F_Mo_furrow
  rcases ix a (lP l) hP with h | ⟨i, hi, rfl⟩
  · rw [hasPlace_bad hc.1 hP h, isPlace_bad hm.1 hP h]
    exact ⟨_, rfl, rfl⟩
  · rw [hasPlace_ok hc.1 hP hi, isPlace_ok hm.1 hP hi, Option.bind_some, Option.bind_some, if_neg ne1, if_neg ne1]
    rcases ix b (lP l) hP with h | ⟨j, hj, rfl⟩
    · rw [hasPlace_bad hc.1 hP h, isPlace_bad hm.1 hP h]
      exact ⟨_, rfl, rfl⟩
    · have h8 := hk.1.2
      rw [hasPlace_ok hc.1 hP hj, isPlace_ok hm.1 hP hj, Option.bind_some, Option.bind_some, if_neg ne1, if_neg ne1, furrowBetween_ok (by omega) (by omega), Option.bind_some, hc.2.2.2.2.2.2.1 _ (by omega)]
      refine ⟨_, rfl, ?_⟩
      rw [i_21, i_8, pk_mul, nI_add, nI_add, q_in_nI (by omega) (by omega), nI_clamp (by omega), show 21 + 8 * i + j = 21 + (8 * i + j) by omega, hm.2.2.2.2.2.2.1 _ (by omega)]
      rfl
theorem wayBetween_ok {l : aL} {m : Nat → Nat → Int32} (hk : aLok l) (hc : LCl l m) {a b : Nat} (ha : a < lP l) (hb : b < lP l) : F_La_wayBetween_9 m (nI a) (nI b) = some (match lW l (8 * a + b) with | none => Int32.ofInt (-9) | some v => nI (lS l * v)) := by
  have h8 := hk.1.2
  unfold F_La_wayBetween_9
  rw [pair_nI, Option.bind_some, q_in_nI (by omega) (by omega), nI_clamp (by omega), hc.2.2.2.2.2.2.2.1 a b ha hb]
  cases hw : lW l (8 * a + b) with
  | none =>
    rw [wI_none, cond_true, if_pos (by decide)]
  | some v =>
    rw [wI_some, cond_true]
    have h1 := hk.2.2.2.2.2.2.2.2.2.2.2.2.2.2 a b v ha hb hw
    have h2 := hk.2.2.2.1.2
    have h3 : lS l * v ≤ 9 * 2304 := Nat.mul_le_mul h2 h1
    rw [i_1000000, if_neg (nI_ge (by omega) (by omega))]
theorem wayOf_ok {l : aL} {n : Nat → Nat → Int32} (hk : aLok l) (hm : LMo l n) {a b : Nat} (ha : a < lP l) (hb : b < lP l) : F_Mo_wayOf n (nI a) (nI b) = some (match lW l (8 * a + b) with | none => Int32.ofInt (-9) | some v => nI (lS l * v)) := by
  have h8 := hk.1.2
  unfold F_Mo_wayOf
  rw [i_8, pk_mul, nI_add, q_in_nI (by omega) (by omega), nI_clamp (by omega), hm.2.2.2.2.2.2.2.1 a b ha hb, hm.2.2.2.1]
  cases hw : lW l (8 * a + b) with
  | none =>
    rw [oI_none, cond_true, if_pos rfl]
  | some v =>
    rw [oI_some, cond_true]
    have h1 := hk.2.2.2.2.2.2.2.2.2.2.2.2.2.2 a b v ha hb hw
    rw [if_neg (nI_neg9 (by omega)), pk_mul, Nat.mul_comm]
theorem E_way {l : aL} {m n : Nat → Nat → Int32} (hl : aLok l ∧ LCl l m ∧ LMo l n) (a b : Int32) : ∃ r, F_AT_way m a b = some r ∧ F_Mo_way n a b = some r := by
  obtain ⟨hk, hc, hm⟩ := hl
  have hP : lP l < 2 ^ 30 := by have := hk.1.2; omega
  unfold F_AT_way F_Mo_way
  rcases ix a (lP l) hP with h | ⟨i, hi, rfl⟩
  · rw [hasPlace_bad hc.1 hP h, isPlace_bad hm.1 hP h]
    exact ⟨_, rfl, rfl⟩
  · rw [hasPlace_ok hc.1 hP hi, isPlace_ok hm.1 hP hi, Option.bind_some, Option.bind_some, if_neg ne1, if_neg ne1]
    rcases ix b (lP l) hP with h | ⟨j, hj, rfl⟩
    · rw [hasPlace_bad hc.1 hP h, isPlace_bad hm.1 hP h]
      exact ⟨_, rfl, rfl⟩
    · rw [hasPlace_ok hc.1 hP hj, isPlace_ok hm.1 hP hj, Option.bind_some, Option.bind_some, if_neg ne1, if_neg ne1, wayBetween_ok hk hc hi hj, wayOf_ok hk hm hi hj]
      exact ⟨_, rfl, rfl⟩
theorem E_sights {l : aL} {m n : Nat → Nat → Int32} (hl : aLok l ∧ LCl l m ∧ LMo l n) (a : Int32) : ∃ r, F_AT_sights m a = some r ∧ F_Mo_sights n a = some r := by
  obtain ⟨hk, hc, hm⟩ := hl
  have h8 := hk.1.2
  have hP : lP l < 2 ^ 30 := by omega
  unfold F_AT_sights F_Mo_sights
  rcases ix a (lP l) hP with h | ⟨i, hi, rfl⟩
  · rw [hasPlace_bad hc.1 hP h, isPlace_bad hm.1 hP h]
    exact ⟨_, rfl, rfl⟩
  · rw [hasPlace_ok hc.1 hP hi, isPlace_ok hm.1 hP hi, Option.bind_some, Option.bind_some, if_neg ne1, if_neg ne1, i_85, nI_add, q_in_nI (by omega) (by omega), q_in_nI (by omega) (by omega), nI_clamp (by omega), nI_clamp (by omega), hc.2.2.2.2.2.2.2.2.1 i (by omega), hm.2.2.2.2.2.2.2.2.1 i (by omega)]
    exact ⟨_, rfl, rfl⟩
theorem E_hedgehog {l : aL} {m n : Nat → Nat → Int32} (hl : aLok l ∧ LCl l m ∧ LMo l n) (a : Int32) : ∃ r, F_AT_hedgehog m a = some r ∧ F_Mo_hedgehog n a = some r := by
  obtain ⟨hk, hc, hm⟩ := hl
  have h8 := hk.2.1
  have hP : lH l < 2 ^ 30 := by omega
  unfold F_AT_hedgehog F_Mo_hedgehog
  rcases ix a (lH l) hP with h | ⟨i, hi, rfl⟩
  · rw [hasHog_bad hc.2.1 hP h, isHog_bad hm.2.1 hP h]
    exact ⟨_, rfl, rfl⟩
  · rw [hasHog_ok hc.2.1 hP hi, isHog_ok hm.2.1 hP hi, Option.bind_some, Option.bind_some, if_neg ne1, if_neg ne1, i_8, nI_add, q_in_nI (by omega) (by omega), q_in_nI (by omega) (by omega), nI_clamp (by omega), nI_clamp (by omega), hc.2.2.2.2.2.2.2.2.2.1 i (by omega), hm.2.2.2.2.2.2.2.2.2.1 i (by omega)]
    exact ⟨_, rfl, rfl⟩
theorem E_count {l : aL} {x : aN} {m n : Nat → Nat → Int32} {len : Nat} {tx : Nat → Nat} (ht : rText len tx m n) (hl : aLok l ∧ LCl l m ∧ LMo l n) (hx : aNok l x ∧ NCl 15 x m ∧ NMo 60 0 x n) (a : Int32) : ∃ r, F_AT_count m a = some r ∧ F_Mo_count n a = some r := by
  obtain ⟨hk, hc, hm⟩ := hl
  unfold F_AT_count F_Mo_count
  rcases in_lit a 0 7 (by decide) (by decide) with ⟨h1, h2⟩ | ⟨h1, j, h2, h3, rfl⟩
  · have h1 : F_Mo_in a 0 7 = some 0 := h1
    rw [h1]
    have e : ∀ k, k ≤ 7 → ¬ a = nI k := fun k hk z => h2 ⟨by rw [z]; exact nI_le (by omega) (by omega), by rw [z]; exact nI_le hk (by omega)⟩
    rw [if_neg (show ¬ a = 0 from e 0 (by omega)), if_neg (show ¬ a = 1 from e 1 (by omega)), if_neg (show ¬ a = 2 from e 2 (by omega)), if_neg (show ¬ a = 3 from e 3 (by omega)), if_neg (show ¬ a = 4 from e 4 (by omega)), if_neg (show ¬ a = 5 from e 5 (by omega)), if_neg (show ¬ a = 6 from e 6 (by omega)), if_neg (show ¬ a = 7 from e 7 (by omega))]
    exact ⟨_, rfl, rfl⟩
  · have h1 : F_Mo_in (nI j) 0 7 = some 1 := h1
    rw [h1, Option.bind_some, if_neg ne1]
    obtain rfl | rfl | rfl | rfl | rfl | rfl | rfl | rfl : j = 0 ∨ j = 1 ∨ j = 2 ∨ j = 3 ∨ j = 4 ∨ j = 5 ∨ j = 6 ∨ j = 7 := by omega
    · exact ⟨_, rfl, by rw [hc.1, ← hm.1]; rfl⟩
    · exact ⟨_, rfl, by rw [hc.2.1, ← hm.2.1]; rfl⟩
    · exact ⟨_, rfl, by rw [hc.2.2.1, ← hm.2.2.1]; rfl⟩
    · exact ⟨_, rfl, by rw [hx.2.1.1, ← hx.2.2.1.1]; rfl⟩
    · exact ⟨_, rfl, by rw [ht.1, ← ht.2.1]; rfl⟩
    · exact ⟨_, rfl, by rw [hc.2.2.2.1, ← hm.2.2.2.1]; rfl⟩
    · exact ⟨_, rfl, by rw [hc.2.2.2.2.1, ← hm.2.2.2.2.1]; rfl⟩
    · exact ⟨_, rfl, by rw [hc.2.2.2.2.2.1, ← hm.2.2.2.2.2.1]; rfl⟩
