/-! bet -/
theorem bet69 {m m' : Nat → Nat → Int32} (h : m 39 0 = m' 39 0) : ∀ (fu : Nat) (a b c d : Int32) (e : Int64) (f : Int32), FL_AT_bet_69 fu m a b c d e f = FL_AT_bet_69 fu m' a b c d e f := by
  intro fu
  induction fu with
  | zero =>
    intro a b c d e f
    rfl
  | succ fu ih =>
    intro a b c d e f
    rw [FL_AT_bet_69, FL_AT_bet_69, h, ih]
theorem bet44 {m m' : Nat → Nat → Int32} (h : m 58 2 = m' 58 2) : ∀ (fu : Nat) (a b : Int32) (c d : Int64) (f : Int32), FL_Mo_bet_44 fu m a b c d f = FL_Mo_bet_44 fu m' a b c d f := by
  intro fu
  induction fu with
  | zero =>
    intro a b c d f
    rfl
  | succ fu ih =>
    intro a b c d f
    rw [FL_Mo_bet_44, FL_Mo_bet_44, h, ih]
theorem bet84 (m m' : Nat → Nat → Int32) : ∀ (fu : Nat) (a b : Int32) (c d e f : Int64), FL_Mo_bet_84 fu m a b c d e f = FL_Mo_bet_84 fu m' a b c d e f := by
  intro fu
  induction fu with
  | zero =>
    intro a b c d e f
    rfl
  | succ fu ih =>
    intro a b c d e f
    rw [FL_Mo_bet_84, FL_Mo_bet_84, ih]
theorem bet_cls {m m' : Nat → Nat → Int32} (h : m 39 0 = m' 39 0) (a b : Int32) : F_AT_bet m a b = F_AT_bet m' a b := by
  unfold F_AT_bet
  simp only [h, bet69 h]
theorem bet_ref {m m' : Nat → Nat → Int32} (h : m 58 2 = m' 58 2) (a b : Int32) : F_Mo_bet m a b = F_Mo_bet m' a b := by
  unfold F_Mo_bet
  simp only [h, bet44 h, bet84 m m']
theorem bet_chk : ∀ K, K < 9 → ∀ p, p < 11 → ∀ w, w < 2 → (F_AT_bet (fun _ _ => nI K) (nI p) (nI w)).isSome = true ∧ F_AT_bet (fun _ _ => nI K) (nI p) (nI w) = F_Mo_bet (fun _ _ => nI K) (nI p) (nI w) := by decide +kernel
theorem E_bet {l : aL} {x : aN} {m n : Nat → Nat → Int32} (hl : aLok l ∧ LCl l m ∧ LMo l n) (hr : rRun l x m) (a b : Int32) : ∃ r, F_AT_bet m a b = some r ∧ F_Mo_bet n a b = some r := by
  have h8 := hl.1.2.2.1
  rcases in_lit a 0 10 (by decide) (by decide) with ⟨h1, h2⟩ | ⟨h1, p, h2, h3, rfl⟩
  · have h1 : F_Mo_in a 0 10 = some 0 := h1
    unfold F_AT_bet F_Mo_bet
    rw [h1, Option.bind_some, if_pos rfl]
    by_cases h0 : a < 0
    · rw [if_pos h0]
      exact ⟨_, rfl, rfl⟩
    · have h4 : (10 : Int32) < a := by
        rw [← Int32.not_le]
        exact fun z => h2 ⟨Int32.not_lt.mp h0, z⟩
      rw [if_neg h0, if_pos h4]
      exact ⟨_, rfl, rfl⟩
  · rcases in_lit b 0 1 (by decide) (by decide) with ⟨g1, g2⟩ | ⟨g1, w, g2, g3, rfl⟩
    · have h1 : F_Mo_in (nI p) 0 10 = some 1 := h1
      have g1 : F_Mo_in b 0 1 = some 0 := g1
      unfold F_AT_bet F_Mo_bet
      have q1 : ¬ nI p < 0 := nI_pos (by omega)
      have q2 : ¬ (10 : Int32) < nI p := (nI_nlt (by omega) (by omega) : ¬ nI 10 < nI p)
      rw [h1, Option.bind_some, if_neg ne1, g1, Option.bind_some, if_pos rfl, if_neg q1, if_neg q2]
      by_cases h0 : b < 0
      · rw [if_pos h0]
        exact ⟨_, rfl, rfl⟩
      · have h4 : ¬ b ≤ 1 := fun z => g2 ⟨Int32.not_lt.mp h0, z⟩
        rw [if_neg h0, if_neg h4]
        exact ⟨_, rfl, rfl⟩
    · rw [bet_cls (m' := fun _ _ => nI (lK l)) hr.1, bet_ref (m' := fun _ _ => nI (lK l)) hl.2.2.2.2.1]
      obtain ⟨c1, c2⟩ := bet_chk (lK l) (by omega) p (by omega) w (by omega)
      rw [← c2]
      obtain ⟨r, hr⟩ := Option.isSome_iff_exists.mp c1
      exact ⟨r, hr, hr⟩
