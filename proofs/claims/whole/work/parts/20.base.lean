/-! numbers: ints as naturals -/
theorem q_in_nI {j n : Nat} (h : j < n) (hn : n < 2 ^ 31) : q_in (nI j) n = true := by
  unfold q_in
  have h1 : ¬ nI j < 0 := nI_pos (by omega)
  have h2 : ¬ n ≤ (nI j).toNatClampNeg := by rw [nI_clamp (by omega)]; omega
  simp [h1, h2]
theorem q_in_iff {x : Int32} {n : Nat} (hn : n < 2 ^ 31) : q_in x n = true ↔ ∃ j, j < n ∧ x = nI j := by
  constructor
  · intro h
    exact vp_in_of (q_in_vp h) hn
  · rintro ⟨j, h, rfl⟩
    exact q_in_nI h hn
theorem q_bl0 : q_bl 0 = true := by decide
theorem q_bl1 : q_bl 1 = true := by decide
def oI (o : Option Nat) : Int32 := match o with
  | none => Int32.ofInt (-9)
  | some v => nI v
theorem nI_lit (n : Nat) : (OfNat.ofNat n : Int32) = nI n := rfl
theorem nI_neg9 {a : Nat} (h : a < 2 ^ 31) : ¬ nI a = Int32.ofInt (-9) := by
  intro z
  have h1 := congrArg Int32.toInt z
  rw [nI_toInt h] at h1
  have h2 : (Int32.ofInt (-9)).toInt = -9 := by decide
  omega
theorem nI_neg1 {a : Nat} (h : a < 2 ^ 31) : ¬ nI a = Int32.ofInt (-1) := by
  intro z
  have h1 := congrArg Int32.toInt z
  rw [nI_toInt h] at h1
  have h2 : (Int32.ofInt (-1)).toInt = -1 := by decide
  omega
theorem q_w_get (m : Nat → Nat → Int32) (k j k' j' : Nat) (x : Int32) : q_w m k j x k' j' = if k' = k ∧ j' = j then x else m k' j' := by
  unfold q_w va_up upd
  by_cases h1 : k' = k
  · subst h1
    by_cases h2 : j' = j
    · simp [h2]
    · simp [h2]
  · simp [h1]
theorem q_w_same (m : Nat → Nat → Int32) (k j : Nat) (x : Int32) : q_w m k j x k j = x := by rw [q_w_get, if_pos ⟨rfl, rfl⟩]
theorem q_w_ne (m : Nat → Nat → Int32) {k j k' j' : Nat} (x : Int32) (h : k' ≠ k ∨ j' ≠ j) : q_w m k j x k' j' = m k' j' := by
  rw [q_w_get, if_neg]
  intro z
  omega
theorem q_cw_get (m : Nat → Nat → Int32) (k0 k1 sp dp c k j : Nat) : q_cw m k0 k1 sp dp c k j = if k = k1 ∧ dp ≤ j ∧ j < dp + c then m k0 (sp + (j - dp)) else m k j := by
  unfold q_cw va_up va_cpy
  by_cases h1 : k = k1
  · subst h1
    by_cases h2 : dp ≤ j ∧ j < dp + c
    · simp [h2]
    · simp [h2]
  · simp [h1]
theorem qFU_big : 9999999 < qFU := by decide
/-- a number is too small, too large, or a place among n -/
theorem ix (x : Int32) (n : Nat) (hn : n < 2 ^ 30) : (x < 0 ∨ nI n ≤ x) ∨ ∃ j, j < n ∧ x = nI j := by
  rcases pk_ix x (n := n) (by omega) with h | h | h
  · exact Or.inl (Or.inl h)
  · exact Or.inl (Or.inr h)
  · exact Or.inr h
theorem in_bad {x : Int32} {n : Nat} (hn : n < 2 ^ 30) (h : x < 0 ∨ nI n ≤ x) : F_Mo_in x 0 (nI n - 1) = some 0 := by
  unfold F_Mo_in
  by_cases h0 : x < 0
  · rw [if_pos h0]
  · rw [if_neg h0, if_pos]
    have h1 := h.resolve_left h0
    rw [Int32.lt_iff_toInt_lt]
    rw [Int32.le_iff_toInt_le, nI_toInt (by omega)] at h1
    have h2 := pk_sub_toInt (a := n) (b := 1) hn (by decide)
    have h3 : (nI n - 1).toInt = (n : Int) - 1 := h2
    omega
theorem in_ok {j n : Nat} (hn : n < 2 ^ 30) (h : j < n) : F_Mo_in (nI j) 0 (nI n - 1) = some 1 := by
  unfold F_Mo_in
  rw [if_neg (nI_pos (by omega)), if_neg]
  rw [Int32.lt_iff_toInt_lt, nI_toInt (by omega)]
  have h2 := pk_sub_toInt (a := n) (b := 1) hn (by decide)
  have h3 : (nI n - 1).toInt = (n : Int) - 1 := h2
  omega
/-- numbers in given bounds -/
theorem in_lit (x : Int32) (lo hi : Nat) (h1 : lo < 2 ^ 30) (h2 : hi < 2 ^ 30) : (F_Mo_in x (nI lo) (nI hi) = some 0 ∧ ¬ (nI lo ≤ x ∧ x ≤ nI hi)) ∨ (F_Mo_in x (nI lo) (nI hi) = some 1 ∧ ∃ j, lo ≤ j ∧ j ≤ hi ∧ x = nI j) := by
  unfold F_Mo_in
  by_cases h3 : x < nI lo
  · left
    rw [if_pos h3]
    exact ⟨rfl, fun z => by rw [← Int32.not_lt] at z; exact z.1 h3⟩
  · rw [if_neg h3]
    by_cases h4 : nI hi < x
    · left
      rw [if_pos h4]
      exact ⟨rfl, fun z => by rw [← Int32.not_lt] at z; exact absurd h4 (by rw [Int32.not_lt]; exact z.2)⟩
    · right
      rw [if_neg h4]
      refine ⟨rfl, ?_⟩
      have e0 : ¬ x < 0 := by
        intro z
        rw [Int32.lt_iff_toInt_lt] at z h3
        rw [nI_toInt (by omega)] at h3
        have : (0 : Int32).toInt = 0 := by decide
        omega
      obtain ⟨j, hj, rfl⟩ := nI_of e0
      refine ⟨j, ?_, ?_, rfl⟩
      · rw [nI_ltI hj (by omega)] at h3; omega
      · rw [nI_ltI (by omega) hj] at h4; omega
-- LITERALS
theorem i_0 : (0 : Int32) = nI 0 := rfl
theorem i_1 : (1 : Int32) = nI 1 := rfl
theorem i_2 : (2 : Int32) = nI 2 := rfl
theorem i_3 : (3 : Int32) = nI 3 := rfl
theorem i_4 : (4 : Int32) = nI 4 := rfl
theorem i_5 : (5 : Int32) = nI 5 := rfl
theorem i_6 : (6 : Int32) = nI 6 := rfl
theorem i_7 : (7 : Int32) = nI 7 := rfl
theorem i_8 : (8 : Int32) = nI 8 := rfl
theorem i_9 : (9 : Int32) = nI 9 := rfl
theorem i_10 : (10 : Int32) = nI 10 := rfl
theorem i_11 : (11 : Int32) = nI 11 := rfl
theorem i_12 : (12 : Int32) = nI 12 := rfl
theorem i_13 : (13 : Int32) = nI 13 := rfl
theorem i_15 : (15 : Int32) = nI 15 := rfl
theorem i_20 : (20 : Int32) = nI 20 := rfl
theorem i_21 : (21 : Int32) = nI 21 := rfl
theorem i_24 : (24 : Int32) = nI 24 := rfl
theorem i_25 : (25 : Int32) = nI 25 := rfl
theorem i_26 : (26 : Int32) = nI 26 := rfl
theorem i_31 : (31 : Int32) = nI 31 := rfl
theorem i_32 : (32 : Int32) = nI 32 := rfl
theorem i_36 : (36 : Int32) = nI 36 := rfl
theorem i_37 : (37 : Int32) = nI 37 := rfl
theorem i_39 : (39 : Int32) = nI 39 := rfl
theorem i_48 : (48 : Int32) = nI 48 := rfl
theorem i_49 : (49 : Int32) = nI 49 := rfl
theorem i_50 : (50 : Int32) = nI 50 := rfl
theorem i_57 : (57 : Int32) = nI 57 := rfl
theorem i_59 : (59 : Int32) = nI 59 := rfl
theorem i_64 : (64 : Int32) = nI 64 := rfl
theorem i_65 : (65 : Int32) = nI 65 := rfl
theorem i_85 : (85 : Int32) = nI 85 := rfl
theorem i_93 : (93 : Int32) = nI 93 := rfl
theorem i_97 : (97 : Int32) = nI 97 := rfl
theorem i_99 : (99 : Int32) = nI 99 := rfl
theorem i_100 : (100 : Int32) = nI 100 := rfl
theorem i_102 : (102 : Int32) = nI 102 := rfl
theorem i_104 : (104 : Int32) = nI 104 := rfl
theorem i_110 : (110 : Int32) = nI 110 := rfl
theorem i_114 : (114 : Int32) = nI 114 := rfl
theorem i_115 : (115 : Int32) = nI 115 := rfl
theorem i_116 : (116 : Int32) = nI 116 := rfl
theorem i_118 : (118 : Int32) = nI 118 := rfl
theorem i_130 : (130 : Int32) = nI 130 := rfl
theorem i_200 : (200 : Int32) = nI 200 := rfl
theorem i_255 : (255 : Int32) = nI 255 := rfl
theorem i_256 : (256 : Int32) = nI 256 := rfl
theorem i_257 : (257 : Int32) = nI 257 := rfl
theorem i_258 : (258 : Int32) = nI 258 := rfl
theorem i_512 : (512 : Int32) = nI 512 := rfl
theorem i_627 : (627 : Int32) = nI 627 := rfl
theorem i_780 : (780 : Int32) = nI 780 := rfl
theorem i_999 : (999 : Int32) = nI 999 := rfl
theorem i_1000 : (1000 : Int32) = nI 1000 := rfl
theorem i_10000 : (10000 : Int32) = nI 10000 := rfl
theorem i_100000 : (100000 : Int32) = nI 100000 := rfl
theorem i_1000000 : (1000000 : Int32) = nI 1000000 := rfl
