/-! the law's loop -/
theorem lg_self (x : Int64) : lg_cmp x x = 0 := (lg_cmp_eq x x).mpr rfl
theorem law_exit {Ln i : Nat} (hL : Ln ≤ 320) (hi : i ≤ 1000) : Int32.ofNat Ln - 5 < nI i ↔ Ln < i + 5 := by
  have h2 : (Int32.ofNat Ln - 5).toInt = (Ln : Int) - 5 := pk_sub_toInt (a := Ln) (b := 5) (by omega) (by omega)
  rw [Int32.lt_iff_toInt_lt, nI_toInt (by omega), h2]
  omega
set_option maxHeartbeats 4000000 in
set_option maxRecDepth 20000 in
theorem law_loop {Ln : Nat} {xs : Nat → Int32} (hL : Ln ≤ 320) : ∀ (d i fu : Nat) (mc mm : Nat → Nat → Int32) (lm : Nat → Int64), Ln ≤ i + d → d < fu → i ≤ 325 → rR mc mm → lm 0 = lm 56 → ∃ mc' mm' lm', FL_Law_law_1000_18 Ln xs fu mc mm lm (nI i) = some (.inr (mc', mm', lm')) := by
  have hble : Nat.ble Ln 1000000 = true := Nat.ble_eq_true_of_le (by omega)
  intro d
  induction d with
  | zero =>
    intro i fu mc mm lm e1 e2 e3 hR hlm
    obtain ⟨fu, rfl⟩ : ∃ f, fu = f + 1 := ⟨fu - 1, by omega⟩
    rw [FL_Law_law_1000_18, hble, cond_true, if_pos ((law_exit hL (by omega)).mpr (by omega))]
    exact ⟨mc, mm, lm, rfl⟩
  | succ d ih =>
    intro i fu mc mm lm e1 e2 e3 hR hlm
    obtain ⟨fu, rfl⟩ : ∃ f, fu = f + 1 := ⟨fu - 1, by omega⟩
    by_cases hx : Ln < i + 5
    · rw [FL_Law_law_1000_18, hble, cond_true, if_pos ((law_exit hL (by omega)).mpr hx)]
      exact ⟨mc, mm, lm, rfl⟩
    have hx2 : ¬ Int32.ofNat Ln - 5 < nI i := fun z => hx ((law_exit hL (by omega)).mp z)
    have p1 : nI i + 1 = nI (i + 1) := nI_add i 1
    have p2 : nI i + 2 = nI (i + 2) := nI_add i 2
    have p3 : nI i + 3 = nI (i + 3) := nI_add i 3
    have p4 : nI i + 4 = nI (i + 4) := nI_add i 4
    have p5 : nI i + 5 = nI (i + 5) := nI_add i 5
    have q0 : q_in (nI i) Ln = true := q_in_nI (by omega) (by omega)
    have q1 : q_in (nI (i + 1)) Ln = true := q_in_nI (by omega) (by omega)
    have q2 : q_in (nI (i + 2)) Ln = true := q_in_nI (by omega) (by omega)
    have q3 : q_in (nI (i + 3)) Ln = true := q_in_nI (by omega) (by omega)
    have q4 : q_in (nI (i + 4)) Ln = true := q_in_nI (by omega) (by omega)
    have go : ∀ (mc mm : Nat → Nat → Int32) (lm : Nat → Int64), rR mc mm → lm 0 = lm 56 → ∃ mc' mm' lm', FL_Law_law_1000_18 Ln xs fu mc mm lm (nI (i + 5)) = some (.inr (mc', mm', lm')) := fun mc mm lm h1 h2 => ih (i + 5) fu mc mm lm (by omega) (by omega) (by omega) h1 h2
    have hR0 := hR
    obtain ⟨l, x, hz, hs, y1, y2, len, tx, ht, hl, hxx, hr, hh, hi1, hi2⟩ := hR0
    rw [FL_Law_law_1000_18]
    simp only [hble, cond_true, p1, p2, p3, p4, p5, q0, q1, q2, q3, q4, Bool.and_self]
    rw [if_neg hx2]
    generalize (xs (nI i).toNatClampNeg &&& 31) = c
    generalize xs (nI (i + 1)).toNatClampNeg = a1
    generalize xs (nI (i + 2)).toNatClampNeg = a2
    generalize xs (nI (i + 3)).toNatClampNeg = a3
    generalize xs (nI (i + 4)).toNatClampNeg = a4
    by_cases c0 : c = 0
    · rw [if_pos c0]
      obtain ⟨r, m', n', b1, b2, b3⟩ := E_type hR a1
      rw [b1, Option.bind_some]
      dsimp only
      rw [b2, Option.bind_some]
      dsimp only
      rw [if_pos rfl]
      exact go m' n' lm b3 hlm
    rw [if_neg c0]
    by_cases c1 : c = 1
    · rw [if_pos c1]
      obtain ⟨r, m', n', b1, b2, b3⟩ := E_clear hR 
      rw [b1, Option.bind_some]
      dsimp only
      rw [b2, Option.bind_some]
      dsimp only
      rw [if_pos rfl]
      exact go m' n' lm b3 hlm
    rw [if_neg c1]
    by_cases c2 : c = 2
    · rw [if_pos c2]
      obtain ⟨r, m', n', b1, b2, b3⟩ := E_furrows hR 
      rw [b1, Option.bind_some]
      dsimp only
      rw [b2, Option.bind_some]
      dsimp only
      rw [if_pos rfl]
      exact go m' n' lm b3 hlm
    rw [if_neg c2]
    by_cases c3 : c = 3
    · rw [if_pos c3]
      obtain ⟨r, b1, b2⟩ := E_furrow hl a1 a2
      rw [b1, Option.bind_some, b2, Option.bind_some, if_pos rfl]
      exact go mc mm lm hR hlm
    rw [if_neg c3]
    by_cases c4 : c = 4
    · rw [if_pos c4]
      obtain ⟨r, b1, b2⟩ := E_way hl a1 a2
      rw [b1, Option.bind_some, b2, Option.bind_some, if_pos rfl]
      exact go mc mm lm hR hlm
    rw [if_neg c4]
    by_cases c5 : c = 5
    · rw [if_pos c5]
      obtain ⟨r, b1, b2⟩ := E_sights hl a1
      rw [b1, Option.bind_some, b2, Option.bind_some, if_pos rfl]
      exact go mc mm lm hR hlm
    rw [if_neg c5]
    by_cases c6 : c = 6
    · rw [if_pos c6]
      obtain ⟨r, b1, b2⟩ := E_hedgehog hl a1
      rw [b1, Option.bind_some, b2, Option.bind_some, if_pos rfl]
      exact go mc mm lm hR hlm
    rw [if_neg c6]
    by_cases c7 : c = 7
    · rw [if_pos c7]
      obtain ⟨r, b1, b2⟩ := E_point hl hxx hr a1 a2
      rw [b1, Option.bind_some, b2, Option.bind_some, if_pos rfl]
      exact go mc mm lm hR hlm
    rw [if_neg c7]
    by_cases c8 : c = 8
    · rw [if_pos c8]
      obtain ⟨r, m', n', b1, b2, b3⟩ := E_sits hR a1 a2 a3 a4
      rw [b1, Option.bind_some]
      dsimp only
      rw [b2, Option.bind_some]
      dsimp only
      rw [if_pos rfl]
      exact go m' n' lm b3 hlm
    rw [if_neg c8]
    by_cases c9 : c = 9
    · rw [if_pos c9]
      obtain ⟨r, m', n', b1, b2, b3⟩ := E_waits hR a1 a2
      rw [b1, Option.bind_some]
      dsimp only
      rw [b2, Option.bind_some]
      dsimp only
      rw [if_pos rfl]
      exact go m' n' lm b3 hlm
    rw [if_neg c9]
    by_cases c10 : c = 10
    · rw [if_pos c10]
      obtain ⟨r, m', n', b1, b2, b3⟩ := E_undo hR 
      rw [b1, Option.bind_some]
      dsimp only
      rw [b2, Option.bind_some]
      dsimp only
      rw [if_pos rfl]
      exact go m' n' lm b3 hlm
    rw [if_neg c10]
    by_cases c11 : c = 11
    · rw [if_pos c11]
      obtain ⟨r, b1, b2⟩ := E_sat hxx a1 a2
      rw [b1, Option.bind_some, b2, Option.bind_some, if_pos rfl]
      exact go mc mm lm hR hlm
    rw [if_neg c11]
    by_cases c12 : c = 12
    · rw [if_pos c12]
      obtain ⟨r, b1, b2⟩ := E_race hl hxx hr hh a1
      rw [b1, Option.bind_some, b2, Option.bind_some, if_pos rfl]
      exact go mc mm lm hR hlm
    rw [if_neg c12]
    by_cases c13 : c = 13
    · rw [if_pos c13]
      obtain ⟨r, m', n', b1, b2, b3⟩ := E_one hR 
      rw [b1, Option.bind_some]
      dsimp only
      rw [b2, Option.bind_some]
      dsimp only
      rw [if_pos rfl]
      exact go m' n' lm b3 hlm
    rw [if_neg c13]
    by_cases c14 : c = 14
    · rw [if_pos c14]
      obtain ⟨r, m', n', b1, b2, b3⟩ := E_needed hR a1
      rw [b1, Option.bind_some]
      dsimp only
      rw [b2, Option.bind_some]
      dsimp only
      rw [if_pos rfl]
      exact go m' n' lm b3 hlm
    rw [if_neg c14]
    by_cases c15 : c = 15
    · rw [if_pos c15]
      obtain ⟨r, m', n', b1, b2, b3⟩ := E_worst hR a1 a2 a3
      rw [b1, Option.bind_some]
      dsimp only
      rw [b2, Option.bind_some]
      dsimp only
      rw [if_pos rfl]
      exact go m' n' lm b3 hlm
    rw [if_neg c15]
    by_cases c16 : c = 16
    · rw [if_pos c16]
      obtain ⟨r, m', n', b1, b2, b3⟩ := E_saw hR a1 a2
      rw [b1, Option.bind_some]
      dsimp only
      rw [b2, Option.bind_some]
      dsimp only
      rw [if_pos rfl]
      exact go m' n' lm b3 hlm
    rw [if_neg c16]
    by_cases c17 : c = 17
    · rw [if_pos c17]
      obtain ⟨r, m', n', b1, b2, b3⟩ := E_forget hR 
      rw [b1, Option.bind_some]
      dsimp only
      rw [b2, Option.bind_some]
      dsimp only
      rw [if_pos rfl]
      exact go m' n' lm b3 hlm
    rw [if_neg c17]
    by_cases c18 : c = 18
    · rw [if_pos c18]
      obtain ⟨r, m', n', b1, b2, b3⟩ := E_fits hR 
      rw [b1, Option.bind_some]
      dsimp only
      rw [b2, Option.bind_some]
      dsimp only
      rw [if_pos rfl]
      exact go m' n' lm b3 hlm
    rw [if_neg c18]
    by_cases c19 : c = 19
    · rw [if_pos c19]
      obtain ⟨r, m', n', b1, b2, b3⟩ := E_sure hR a1
      rw [b1, Option.bind_some]
      dsimp only
      rw [b2, Option.bind_some]
      dsimp only
      rw [if_pos rfl]
      exact go m' n' lm b3 hlm
    rw [if_neg c19]
    by_cases c20 : c = 20
    · rw [if_pos c20]
      obtain ⟨r, b1, b2⟩ := E_ask hl a1
      rw [b1, Option.bind_some, b2, Option.bind_some, if_pos rfl]
      exact go mc mm lm hR hlm
    rw [if_neg c20]
    by_cases c21 : c = 21
    · rw [if_pos c21]
      obtain ⟨r, b1, b2⟩ := E_bet hl hr a1 a2
      rw [b1, Option.bind_some, b2, Option.bind_some, if_pos (lg_self r)]
      exact go mc mm lm hR hlm
    rw [if_neg c21]
    by_cases c22 : c = 22
    · rw [if_pos c22]
      obtain ⟨r, lm1, lm2, b1, b2, b3⟩ := E_rate hl hxx hr lm hlm a1 a2
      rw [b1, Option.bind_some]
      dsimp only
      rw [b2, Option.bind_some]
      dsimp only
      rw [if_pos rfl]
      exact go mc mm lm2 hR b3
    rw [if_neg c22]
    by_cases c23 : c = 23
    · rw [if_pos c23]
      obtain ⟨r, m', n', b1, b2, b3⟩ := E_keep hR a1
      rw [b1, Option.bind_some]
      dsimp only
      rw [b2, Option.bind_some]
      dsimp only
      rw [if_pos rfl]
      exact go m' n' lm b3 hlm
    rw [if_neg c23]
    by_cases c24 : c = 24
    · rw [if_pos c24]
      obtain ⟨r, m', n', b1, b2, b3⟩ := E_back hR a1
      rw [b1, Option.bind_some]
      dsimp only
      rw [b2, Option.bind_some]
      dsimp only
      rw [if_pos rfl]
      exact go m' n' lm b3 hlm
    rw [if_neg c24]
    by_cases c25 : c = 25
    · rw [if_pos c25]
      obtain ⟨r, b1, b2⟩ := E_count ht hl hxx a1
      rw [b1, Option.bind_some, b2, Option.bind_some, if_pos rfl]
      exact go mc mm lm hR hlm
    rw [if_neg c25]
    by_cases c26 : c = 26
    · rw [if_pos c26]
      have b1 : F_AT_trace mc lm = some (lm 0) := rfl
      have b2 : F_Mo_trace mm lm = some (lm 56) := rfl
      rw [b1, Option.bind_some, b2, Option.bind_some, hlm, if_pos (lg_self _)]
      exact go mc mm lm hR hlm
    rw [if_neg c26]
    exact go mc mm lm hR hlm
