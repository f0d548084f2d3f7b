/-! what can be undone -/
theorem hStep.eq {x y z : aN} {pt fw : Int32} (h : hStep x y pt fw) (e : aEq y z) : hStep x z pt fw := by
  obtain ⟨e1, e2, e3⟩ := e
  rcases h with ⟨a1, a2, a3, a4⟩ | ⟨i, b1, b2, b3, b4, b5, b6⟩
  · refine Or.inl ⟨a1, by omega, fun i hi => ?_, fun i hi => (a4 i hi).trans (e3 i hi)⟩
    obtain ⟨p1, p2, p3, p4⟩ := a3 i hi
    obtain ⟨q1, q2, q3, q4⟩ := e2 i (by omega)
    exact ⟨p1.trans q1, p2.trans q2, p3.trans q3, p4.trans q4⟩
  · refine Or.inr ⟨i, b1, b2, b3, by omega, fun j hj => ?_, fun j hj hn => (b6 j hj hn).trans (e3 j hj)⟩
    obtain ⟨p1, p2, p3, p4⟩ := b5 j hj
    obtain ⟨q1, q2, q3, q4⟩ := e2 j (by omega)
    exact ⟨p1.trans q1, p2.trans q2, p3.trans q3, p4.trans q4⟩
theorem aEq.rf (x : aN) : aEq x x := ⟨rfl, fun _ _ => ⟨rfl, rfl, rfl, rfl⟩, fun _ _ => rfl⟩
theorem keeps51_loop {hz : Nat} (hh : hz < 12) : ∀ (k i fu : Nat) (n : Nat → Nat → Int32), n 56 7 = nI hz → i + k = 57 → k < fu → FL_Mo_keeps_51 fu n (nI i) = some (q_cw n 60 61 i (57 * hz + i) k) := by
  intro k
  induction k with
  | zero =>
    intro i fu n h0 h1 h2
    obtain ⟨fu, rfl⟩ : ∃ f, fu = f + 1 := ⟨fu - 1, by omega⟩
    obtain rfl : i = 57 := by omega
    rw [FL_Mo_keeps_51, if_pos (by decide), cw_zero]
  | succ k ih =>
    intro i fu n h0 h1 h2
    obtain ⟨fu, rfl⟩ : ∃ f, fu = f + 1 := ⟨fu - 1, by omega⟩
    have g1 : ¬ (57 : Int32) ≤ nI i := (nI_ge (by omega) (by omega) : ¬ nI 57 ≤ nI i)
    rw [FL_Mo_keeps_51, if_neg g1, h0, i_57, pk_mul, nI_add, i_1, nI_add, q_in_nI (j := i) (by omega) (by omega), q_in_nI (j := 57 * hz + i) (by omega) (by omega), nI_clamp (n := i) (by omega), nI_clamp (n := 57 * hz + i) (by omega), cond_true, cond_true, ih (i + 1) fu _ (by rw [q_w_row _ _ _ (by omega)]; exact h0) (by omega) (by omega), ← cw_step _ _ (Or.inl (by omega))]
    rfl
theorem keeps11_loop : ∀ (k i fu : Nat) (n : Nat → Nat → Int32), i + k = 627 → k < fu → FL_Mo_keeps_11 fu n (nI i) = some (q_cw n 61 61 (i + 57) i k) := by
  intro k
  induction k with
  | zero =>
    intro i fu n h1 h2
    obtain ⟨fu, rfl⟩ : ∃ f, fu = f + 1 := ⟨fu - 1, by omega⟩
    obtain rfl : i = 627 := by omega
    rw [FL_Mo_keeps_11, if_pos (by decide), cw_zero]
  | succ k ih =>
    intro i fu n h1 h2
    obtain ⟨fu, rfl⟩ : ∃ f, fu = f + 1 := ⟨fu - 1, by omega⟩
    have g1 : ¬ (627 : Int32) ≤ nI i := (nI_ge (by omega) (by omega) : ¬ nI 627 ≤ nI i)
    rw [FL_Mo_keeps_11, if_neg g1, i_57, nI_add, i_1, nI_add, q_in_nI (j := i) (by omega) (by omega), q_in_nI (j := i + 57) (by omega) (by omega), nI_clamp (n := i) (by omega), nI_clamp (n := i + 57) (by omega), cond_true, cond_true, ih (i + 1) fu _ (by omega) (by omega), ← cw_step _ _ (Or.inr (by omega)), show i + 1 + 57 = i + 57 + 1 by omega]
theorem undo_loop {hz : Nat} (hh : hz < 12) : ∀ (k i fu : Nat) (n : Nat → Nat → Int32), n 56 7 = nI hz → i + k = 57 → k < fu → FL_Mo_undo_22 fu n (nI i) = some (q_cw n 61 60 (57 * hz + i) i k) := by
  intro k
  induction k with
  | zero =>
    intro i fu n h0 h1 h2
    obtain ⟨fu, rfl⟩ : ∃ f, fu = f + 1 := ⟨fu - 1, by omega⟩
    obtain rfl : i = 57 := by omega
    rw [FL_Mo_undo_22, if_pos (by decide), cw_zero]
  | succ k ih =>
    intro i fu n h0 h1 h2
    obtain ⟨fu, rfl⟩ : ∃ f, fu = f + 1 := ⟨fu - 1, by omega⟩
    have g1 : ¬ (57 : Int32) ≤ nI i := (nI_ge (by omega) (by omega) : ¬ nI 57 ≤ nI i)
    rw [FL_Mo_undo_22, if_neg g1, h0, i_57, pk_mul, nI_add, i_1, nI_add, q_in_nI (j := i) (by omega) (by omega), q_in_nI (j := 57 * hz + i) (by omega) (by omega), nI_clamp (n := i) (by omega), nI_clamp (n := 57 * hz + i) (by omega), cond_true, cond_true, ih (i + 1) fu _ (by rw [q_w_row _ _ _ (by omega)]; exact h0) (by omega) (by omega), ← cw_step _ _ (Or.inl (by omega))]
    rfl
theorem note_ok {l : aL} {x y : aN} {hz : Nat} {hs : Nat → aN} {m n : Nat → Nat → Int32} {pt fw : Int32} (hh : rHist l x hz hs m n) (hx : aNok l x) (hn : NMs 60 0 x n) (st : hStep x y pt fw) : ∃ m1 n1 hz' hs', F_Hi_note_36 m pt fw = some m1 ∧ F_Mo_keeps n = some n1 ∧ rHist l y hz' hs' m1 n1 ∧ (∀ k, k < 36 ∨ 38 < k → m1 k = m k) ∧ (∀ k, k ≠ 56 → k ≠ 61 → n1 k = n k) ∧ ∀ j, j ≠ 7 → n1 56 j = n 56 j := by
  have hfu := qFU_big
  obtain ⟨a1, a2, a3, a4, a5⟩ := hh
  unfold F_Hi_note_36 F_Mo_keeps
  rw [a2, a3]
  by_cases e : hz = 12
  · subst e
    rw [if_neg (by decide), if_pos (by decide), show FL_Mo_keeps_11 qFU n 0 = _ from keeps11_loop 627 0 qFU n (by omega) (by omega), Option.bind_some, q_cw_row _ _ _ _ (by omega), a3, show nI 12 - 1 = nI 11 from rfl, show FL_Mo_keeps_51 qFU (q_w (q_cw n 61 61 (0 + 57) 0 627) 56 7 (nI 11)) 0 = _ from keeps51_loop (hz := 11) (by omega) 57 0 qFU _ (q_w_same _ _ _ _) (by omega) (by omega), Option.bind_some, q_cw_row _ _ _ _ (by omega), q_w_same, show nI 11 + 1 = nI 12 from rfl]
    refine ⟨_, _, 12, fun j => if j < 11 then hs (j + 1) else if j = 11 then x else y, rfl, rfl, ⟨by omega, q_w_same _ _ _ _, q_w_same _ _ _ _, aEq.rf y, fun j hj => ?_⟩, fun k hk => ?_, fun k h1 h2 => ?_, fun j hj => ?_⟩
    · dsimp only
      by_cases e : j < 11
      · obtain ⟨b1, b2, b3⟩ := a5 (j + 1) (by omega)
        rw [if_pos e]
        refine ⟨b1, ?_, ?_⟩
        · exact b2.cp b1.1 (fun k hk => by rw [q_w_row _ _ _ (by omega), q_cw_get, if_neg (by omega), q_w_row _ _ _ (by omega), q_cw_get, if_pos (by omega)]; congr 1; omega)
        · have b4 : hStep (hs (j + 1)) (if j + 1 < 11 then hs (j + 1 + 1) else if j + 1 = 11 then x else y) (m 37 (j + 1)) (m 38 (j + 1)) := by
            by_cases e2 : j + 1 < 11
            · rw [if_pos e2]
              exact b3
            · rw [if_neg e2, if_pos (by omega)]
              exact b3.eq (by rw [show j + 1 + 1 = 12 by omega]; exact a4)
          rw [q_w_row _ _ _ (show 37 ≠ 36 by omega), q_w_row _ _ _ (show 37 ≠ 38 by omega), q_w_ne _ _ (show 37 ≠ 37 ∨ j ≠ 11 by omega), q_w_row _ _ _ (show 37 ≠ 36 by omega), q_cw_row _ _ _ _ (show 37 ≠ 38 by omega), q_cw_get, if_pos (show 37 = 37 ∧ 0 ≤ j ∧ j < 0 + 11 by omega), q_w_row _ _ _ (show 38 ≠ 36 by omega), q_w_ne _ _ (show 38 ≠ 38 ∨ j ≠ 11 by omega), q_w_row _ _ _ (show 38 ≠ 37 by omega), q_w_row _ _ _ (show 38 ≠ 36 by omega), q_cw_get, if_pos (show 38 = 38 ∧ 0 ≤ j ∧ j < 0 + 11 by omega), q_cw_row _ _ _ _ (show 38 ≠ 37 by omega), Nat.sub_zero, Nat.add_comm 1 j]
          exact b4
      · obtain rfl : j = 11 := by omega
        rw [if_neg e, if_pos rfl, if_neg (by omega), if_neg (by omega)]
        refine ⟨hx, ?_, ?_⟩
        · exact hn.cp hx.1 (fun k hk => by rw [q_w_row _ _ _ (by omega), q_cw_get, if_pos (by omega), q_w_row _ _ _ (by omega), q_cw_row _ _ _ _ (by omega), show 0 + (57 * 11 + k - (57 * 11 + 0)) = 0 + k by omega])
        · rw [q_w_row _ _ _ (show 37 ≠ 36 by omega), q_w_row _ _ _ (show 37 ≠ 38 by omega), q_w_same, q_w_row _ _ _ (show 38 ≠ 36 by omega), q_w_same]
          exact st
    · rw [q_w_row _ _ _ (by omega), q_w_row _ _ _ (by omega), q_w_row _ _ _ (by omega), q_w_row _ _ _ (by omega), q_cw_row _ _ _ _ (by omega), q_cw_row _ _ _ _ (by omega)]
    · rw [q_w_row _ _ _ (by omega), q_cw_row _ _ _ _ (by omega), q_w_row _ _ _ (by omega), q_cw_row _ _ _ _ (by omega)]
    · rw [q_w_ne _ _ (by omega), q_cw_row _ _ _ _ (by omega), q_w_ne _ _ (by omega), q_cw_row _ _ _ _ (by omega)]
  · have g1 : nI hz < 12 := (nI_lt (by omega) (by omega) : nI hz < nI 12)
    have g2 : ¬ nI hz = 12 := fun z => e ((nI_eq (b := 12) (by omega) (by omega)).mp z)
    rw [if_pos g1, if_neg g2, q_in_nI (j := hz) (by omega) (by omega), nI_clamp (n := hz) (by omega), cond_true, cond_true, show FL_Mo_keeps_51 qFU n 0 = _ from keeps51_loop (hz := hz) (by omega) 57 0 qFU n a3 (by omega) (by omega), Option.bind_some, q_cw_row _ _ _ _ (by omega), a3, i_1, nI_add]
    refine ⟨_, _, hz + 1, fun j => if j < hz then hs j else if j = hz then x else y, rfl, rfl, ⟨by omega, q_w_same _ _ _ _, q_w_same _ _ _ _, ?_, fun j hj => ?_⟩, fun k hk => ?_, fun k h1 h2 => ?_, fun j hj => ?_⟩
    · dsimp only
      rw [if_neg (by omega), if_neg (by omega)]
      exact aEq.rf y
    · dsimp only
      by_cases e : j < hz
      · obtain ⟨b1, b2, b3⟩ := a5 j e
        rw [if_pos e]
        refine ⟨b1, ?_, ?_⟩
        · exact b2.cp b1.1 (fun k hk => by rw [q_w_row _ _ _ (by omega), q_cw_get, if_neg (by omega)])
        · have b4 : hStep (hs j) (if j + 1 < hz then hs (j + 1) else if j + 1 = hz then x else y) (m 37 j) (m 38 j) := by
            by_cases e2 : j + 1 < hz
            · rw [if_pos e2]
              exact b3
            · rw [if_neg e2, if_pos (by omega)]
              exact b3.eq (by rw [show j + 1 = hz by omega]; exact a4)
          rw [q_w_row _ _ _ (show 37 ≠ 36 by omega), q_w_row _ _ _ (show 37 ≠ 38 by omega), q_w_ne _ _ (show 37 ≠ 37 ∨ j ≠ hz by omega), q_w_row _ _ _ (show 38 ≠ 36 by omega), q_w_ne _ _ (show 38 ≠ 38 ∨ j ≠ hz by omega), q_w_row _ _ _ (show 38 ≠ 37 by omega)]
          exact b4
      · obtain rfl : j = hz := by omega
        rw [if_neg e, if_pos rfl, if_neg (by omega), if_neg (by omega)]
        refine ⟨hx, ?_, ?_⟩
        · exact hn.cp hx.1 (fun k hk => by rw [q_w_row _ _ _ (by omega), q_cw_get, if_pos (by omega)]; congr 1; omega)
        · rw [q_w_row _ _ _ (show 37 ≠ 36 by omega), q_w_row _ _ _ (show 37 ≠ 38 by omega), q_w_same, q_w_row _ _ _ (show 38 ≠ 36 by omega), q_w_same]
          exact st
    · rw [q_w_row _ _ _ (by omega), q_w_row _ _ _ (by omega), q_w_row _ _ _ (by omega)]
    · rw [q_w_row _ _ _ (by omega), q_cw_row _ _ _ _ (by omega)]
    · rw [q_w_ne _ _ (by omega), q_cw_row _ _ _ _ (by omega)]
theorem E_waits {m n : Nat → Nat → Int32} (h : rR m n) (a b : Int32) : ∃ r m' n', F_AT_waits m a b = some (r, m') ∧ F_Mo_waits n a b = some (r, n') ∧ rR m' n' := by
  have hR := h
  obtain ⟨l, x, hz, hs, y1, y2, len, tx, ht, hl, hx, hr, hh, hi1, hi2⟩ := h
  have h8 := hl.1.2.2.1
  have hP : lK l < 2 ^ 30 := by omega
  unfold F_AT_waits F_Mo_waits
  rcases ix a (lK l) hP with h | ⟨i, hi, rfl⟩
  · rw [hasPoint_bad hr.1 hP h, isPoint_bad hl.2.2.2.2.1 hP h]
    exact ⟨_, _, _, rfl, rfl, hR⟩
  · rw [hasPoint_ok hr.1 hP hi, isPoint_ok hl.2.2.2.2.1 hP hi, Option.bind_some, Option.bind_some, if_neg ne1, if_neg ne1]
    rcases in_lit b 0 20 (by decide) (by decide) with ⟨h1, h2⟩ | ⟨h1, j, h2, h3, rfl⟩
    · have h1 : F_Mo_in b 0 20 = some 0 := h1
      rw [h1, Option.bind_some, if_pos rfl]
      by_cases h0 : b < 0
      · rw [if_pos h0]
        exact ⟨_, _, _, rfl, rfl, hR⟩
      · have h4 : ¬ b ≤ 20 := fun z => h2 ⟨Int32.not_lt.mp h0, z⟩
        rw [if_neg h0, if_neg h4]
        exact ⟨_, _, _, rfl, rfl, hR⟩
    · have h1 : F_Mo_in (nI j) 0 20 = some 1 := h1
      have g1 : ¬ nI j < 0 := nI_pos (by omega)
      have g2 : nI j ≤ 20 := (nI_le h3 (by omega) : nI j ≤ nI 20)
      obtain ⟨y, hy⟩ : ∃ y : aN, y = (x.1, x.2.1, x.2.2.1, x.2.2.2.1, x.2.2.2.2.1, (fun k => if k = i then j else xW x k), x.2.2.2.2.2.2) := ⟨_, rfl⟩
      have yC : xC y = xC x := by rw [hy]; rfl
      have yH : xH y = xH x := by rw [hy]; rfl
      have yP : xP y = xP x := by rw [hy]; rfl
      have yF : xF y = xF x := by rw [hy]; rfl
      have yT : xT y = xT x := by rw [hy]; rfl
      have yS : xS y = xS x := by rw [hy]; rfl
      have yW : ∀ k, xW y k = if k = i then j else xW x k := by rw [hy]; exact fun _ => rfl
      have yok : aNok l y := by
        refine ⟨by rw [yC]; exact hx.1.1, fun k hk => ?_, fun k hk => ?_, ?_⟩
        · rw [yC] at hk
          rw [yH, yP, yF, yT]
          exact hx.1.2.1 k hk
        · rw [yW]
          by_cases e : k = i
          · rw [if_pos e]
            omega
          · rw [if_neg e]
            exact hx.1.2.2.1 k hk
        · rw [yS]
          exact hx.1.2.2.2
      obtain ⟨m1, n1, hz', hs', f1, f2, f3, f4, f5, f6⟩ := note_ok (y := y) (pt := nI i) (fw := nI (xW x i)) hh hx.1 hx.2.2.1 (Or.inr ⟨i, by omega, rfl, rfl, yC, fun k hk => by rw [yH, yP, yF, yT]; exact ⟨rfl, rfl, rfl, rfl⟩, fun k hk hn => by rw [yW, if_neg hn]⟩)
      have c := hx.2.1
      have c15 : NCl 15 y (q_w m1 20 i (nI j)) := by
        refine ⟨by rw [q_w_row _ _ _ (by omega), f4 _ (by omega), yC]; exact c.1, fun k hk => ?_, fun k hk => ?_, fun k hk => ?_⟩
        · rw [yC] at hk
          rw [q_w_row _ _ _ (by omega), q_w_row _ _ _ (by omega), q_w_row _ _ _ (by omega), q_w_row _ _ _ (by omega), f4 _ (by omega), f4 _ (by omega), f4 _ (by omega), f4 _ (by omega), yH, yP, yF, yT]
          exact c.2.1 k hk
        · rw [yW]
          by_cases e : k = i
          · rw [if_pos e, e]
            exact q_w_same _ _ _ _
          · rw [if_neg e, q_w_ne _ _ (by omega), f4 _ (by omega)]
            exact c.2.2.1 k hk
        · rw [q_w_row _ _ _ (by omega), f4 _ (by omega), yS]
          exact c.2.2.2 k hk
      have lc : LCl l (q_w m1 20 i (nI j)) := hl.2.1.of (fun k a b => by rw [q_w_row _ _ _ (by omega), f4 _ (by omega)])
      obtain ⟨m2, q1, q2, q3⟩ := follow_ok hl.1 yok lc c15
      have n15 : NMo 60 0 y (q_w n1 60 (49 + i) (nI j)) := by
        obtain ⟨⟨d1, d2, d3⟩, d4⟩ := hx.2.2
        have h12 := hx.1.1
        refine ⟨⟨by rw [q_w_ne _ _ (by omega), f5 _ (by omega) (by omega), yC]; exact d1, fun k hk => ?_, fun k hk => ?_⟩, fun k hk => ?_⟩
        · rw [yC] at hk
          rw [q_w_ne _ _ (by omega), q_w_ne _ _ (by omega), q_w_ne _ _ (by omega), q_w_ne _ _ (by omega), f5 _ (by omega) (by omega), yH, yP, yF, yT]
          exact d2 k hk
        · rw [yW]
          by_cases e : k = i
          · rw [if_pos e, e, Nat.zero_add]
            exact q_w_same _ _ _ _
          · rw [if_neg e, q_w_ne _ _ (by omega), f5 _ (by omega) (by omega)]
            exact d3 k hk
        · rw [q_w_ne _ _ (by omega), f5 _ (by omega) (by omega), yS]
          exact d4 k hk
      have lm : LMo l (q_w n1 60 (49 + i) (nI j)) := hl.2.2.of (by rw [q_w_row _ _ _ (by omega), f5 _ (by omega) (by omega)]) (by rw [q_w_row _ _ _ (by omega), f5 _ (by omega) (by omega)])
      obtain ⟨K, hK⟩ : ∃ K, lK l = K + 1 := ⟨lK l - 1, by omega⟩
      have e1 : F_Ru_comesLast_39 m2 = some (nI (cm l y K)) := by
        unfold F_Ru_comesLast_39
        have g3 : ¬ nI (K + 1) ≤ 0 := nI_nle (by omega) (by omega)
        rw [q2.1, hK, if_neg g3, nI_pred, q_in_nI (by omega) (by omega), nI_clamp (by omega), (q2.2 K (by omega)).2.1]
        rfl
      have e2 : F_Mo_comes (q_w n1 60 (49 + i) (nI j)) (n1 58 2 - 1) = some (nI (cm l y K)) := by
        rw [f5 _ (by omega) (by omega), hl.2.2.2.2.1, hK, nI_pred]
        exact comes_ok hl.1 lm n15.1 (by omega)
      have w0 : m 20 i = nI (xW x i) := c.2.2.1 i (by omega)
      have e0 : F_Hi_noteWait_36 m (nI i) (nI (xW x i)) = some m1 := by
        unfold F_Hi_noteWait_36
        rw [f1]
        rfl
      rw [h1, Option.bind_some, if_neg ne1, if_neg g1, if_pos g2, f2, Option.bind_some, i_49, nI_add, q_in_nI (j := i) (by omega) (by omega), q_in_nI (j := 49 + i) (by omega) (by omega), nI_clamp (n := i) (by omega), nI_clamp (n := 49 + i) (by omega), w0, e0, cond_true, cond_true, Option.bind_some, cond_true, q1, Option.bind_some, e1, e2]
      refine ⟨_, _, _, rfl, rfl, l, y, hz', hs', y1, y2, len, tx, ht.of ?_ ?_ ?_ ?_, ⟨hl.1, lc.of (fun k a b => q3 _ (by omega)), lm⟩, ⟨yok, c15.of (fun k a b => q3 _ (by omega)), n15⟩, q2, f3.of (fun k a b => by rw [q3 _ (by omega), q_w_row _ _ _ (by omega)]) ?_ ?_, hi1.of (fun k a b => by rw [q3 _ (by omega), q_w_row _ _ _ (by omega), f4 _ (by omega)]) ?_ ?_, hi2.of (fun k a b => by rw [q3 _ (by omega), q_w_row _ _ _ (by omega), f4 _ (by omega)]) ?_ ?_⟩
      · rw [q3 _ (by omega), q_w_row _ _ _ (by omega), f4 _ (by omega)]
      · rw [q3 _ (by omega), q_w_row _ _ _ (by omega), f4 _ (by omega)]
      · rw [q_w_row _ _ _ (by omega), f6 _ (by omega)]
      · rw [q_w_row _ _ _ (by omega), f5 _ (by omega) (by omega)]
      · rw [q_w_row _ _ _ (by omega)]
      · rw [q_w_row _ _ _ (by omega)]
      · rw [q_w_row _ _ _ (by omega), f5 _ (by omega) (by omega)]
      · rw [q_w_row _ _ _ (by omega), f5 _ (by omega) (by omega)]
      · rw [q_w_row _ _ _ (by omega), f5 _ (by omega) (by omega)]
      · rw [q_w_row _ _ _ (by omega), f5 _ (by omega) (by omega)]
theorem E_undo {m n : Nat → Nat → Int32} (h : rR m n) : ∃ r m' n', F_AT_undo m = some (r, m') ∧ F_Mo_undo n = some (r, n') ∧ rR m' n' := by
  have hR := h
  obtain ⟨l, x, hz, hs, y1, y2, len, tx, ht, hl, hx, hr, hh, hi1, hi2⟩ := h
  have hfu := qFU_big
  obtain ⟨a1, a2, a3, a4, a5⟩ := hh
  unfold F_AT_undo F_Mo_undo
  rw [a2, a3]
  by_cases e : hz = 0
  · subst e
    rw [if_neg (by decide), if_pos (by decide)]
    exact ⟨_, _, _, rfl, rfl, hR⟩
  · obtain ⟨p, rfl⟩ : ∃ p, hz = p + 1 := ⟨hz - 1, by omega⟩
    have g1 : 0 < nI (p + 1) := (nI_lt (by omega) (by omega) : nI 0 < nI (p + 1))
    have g2 : ¬ nI (p + 1) = 0 := nI_ne0 (by omega) (by omega)
    obtain ⟨b1, b2, b3⟩ := a5 p (by omega)
    have b3 := b3.eq a4
    obtain ⟨y, hy⟩ : ∃ y : aN, y = ((hs p).1, (hs p).2.1, (hs p).2.2.1, (hs p).2.2.2.1, (hs p).2.2.2.2.1, (hs p).2.2.2.2.2.1, x.2.2.2.2.2.2) := ⟨_, rfl⟩
    have yC : xC y = xC (hs p) := by rw [hy]; rfl
    have yH : xH y = xH (hs p) := by rw [hy]; rfl
    have yP : xP y = xP (hs p) := by rw [hy]; rfl
    have yF : xF y = xF (hs p) := by rw [hy]; rfl
    have yT : xT y = xT (hs p) := by rw [hy]; rfl
    have yW : xW y = xW (hs p) := by rw [hy]; rfl
    have yS : xS y = xS x := by rw [hy]; rfl
    have yok : aNok l y := by
      refine ⟨by rw [yC]; exact b1.1, fun k hk => ?_, fun k hk => ?_, ?_⟩
      · rw [yC] at hk
        rw [yH, yP, yF, yT]
        exact b1.2.1 k hk
      · rw [yW]
        exact b1.2.2.1 k hk
      · rw [yS]
        exact hx.1.2.2.2
    -- the class takes it back
    have key : ∃ m2, F_Hi_takeBack_36_15 m = some m2 ∧ NCl 15 y m2 ∧ m2 36 0 = nI p ∧ ∀ k, k ≠ 15 → k ≠ 20 → k ≠ 36 → m2 k = m k := by
      have c := hx.2.1
      unfold F_Hi_takeBack_36_15
      rw [a2, if_pos g1, nI_pred, q_in_nI (j := p) (by omega) (by omega), nI_clamp (n := p) (by omega), cond_true, cond_true]
      rcases b3 with ⟨d1, d2, d3, d4⟩ | ⟨i, d1, d2, d3, d4, d5, d6⟩
      · have g3 : ¬ nI (xC x) ≤ 0 := nI_nle (by omega) (by have := hx.1.1; omega)
        rw [if_pos d1]
        unfold F_No_dropLastSits_15
        rw [q_w_row _ _ _ (show 15 ≠ 36 by omega), c.1, if_neg g3, d2, nI_pred]
        refine ⟨_, rfl, ⟨by rw [q_w_same, yC], fun k hk => ?_, fun k hk => ?_, fun k hk => ?_⟩, by rw [q_w_row _ _ _ (by omega), q_w_same], fun k h1 h2 h3 => by rw [q_w_row _ _ _ (by omega), q_w_row _ _ _ (by omega)]⟩
        · rw [yC] at hk
          obtain ⟨p1, p2, p3, p4⟩ := d3 k hk
          rw [q_w_row _ _ _ (by omega), q_w_row _ _ _ (by omega), q_w_row _ _ _ (by omega), q_w_row _ _ _ (by omega), q_w_row _ _ _ (by omega), q_w_row _ _ _ (by omega), q_w_row _ _ _ (by omega), q_w_row _ _ _ (by omega), yH, yP, yF, yT, p1, p2, p3, p4]
          exact c.2.1 k (by omega)
        · rw [q_w_row _ _ _ (by omega), q_w_row _ _ _ (by omega), yW, d4 k hk]
          exact c.2.2.1 k hk
        · rw [q_w_row _ _ _ (by omega), q_w_row _ _ _ (by omega), yS]
          exact c.2.2.2 k hk
      · rw [d2, d3, if_neg (nI_neg1 (by omega)), q_in_nI (j := i) (by omega) (by omega), nI_clamp (n := i) (by omega), cond_true]
        refine ⟨_, rfl, ⟨by rw [q_w_row _ _ _ (by omega), q_w_row _ _ _ (by omega), yC, ← d4]; exact c.1, fun k hk => ?_, fun k hk => ?_, fun k hk => ?_⟩, by rw [q_w_row _ _ _ (by omega), q_w_same], fun k h1 h2 h3 => by rw [q_w_row _ _ _ (by omega), q_w_row _ _ _ (by omega)]⟩
        · rw [yC] at hk
          obtain ⟨p1, p2, p3, p4⟩ := d5 k hk
          rw [q_w_row _ _ _ (by omega), q_w_row _ _ _ (by omega), q_w_row _ _ _ (by omega), q_w_row _ _ _ (by omega), q_w_row _ _ _ (by omega), q_w_row _ _ _ (by omega), q_w_row _ _ _ (by omega), q_w_row _ _ _ (by omega), yH, yP, yF, yT, p1, p2, p3, p4]
          exact c.2.1 k (by omega)
        · rw [yW]
          by_cases e2 : k = i
          · rw [e2]
            exact q_w_same _ _ _ _
          · rw [q_w_ne _ _ (by omega), q_w_row _ _ _ (by omega), d6 k hk e2]
            exact c.2.2.1 k hk
        · rw [q_w_row _ _ _ (by omega), q_w_row _ _ _ (by omega), yS]
          exact c.2.2.2 k hk
    obtain ⟨m2, k1, k2, k3, k4⟩ := key
    have lc : LCl l m2 := hl.2.1.of (fun k a b => k4 _ (by omega) (by omega) (by omega))
    obtain ⟨m3, q1, q2, q3⟩ := follow_ok hl.1 yok lc k2
    have e3 : FL_Mo_undo_22 qFU (q_w n 56 7 (nI p)) 0 = _ := undo_loop (hz := p) (by omega) 57 0 qFU _ (q_w_same _ _ _ _) (by omega) (by omega)
    rw [if_pos g1, if_neg g2, k1, Option.bind_some, q1, Option.bind_some, nI_pred, e3, Option.bind_some, q3 _ (by omega), k3, q_cw_row _ _ _ _ (by omega), q_w_same]
    have fr : ∀ k, k < 15 ∨ 20 < k → k < 36 ∨ 36 < k → k < 39 ∨ 42 < k → m3 k = m k := fun k h1 h2 h3 => by rw [q3 _ h3, k4 _ (by omega) (by omega) (by omega)]
    refine ⟨_, _, _, rfl, rfl, l, y, p, hs, y1, y2, len, tx, ht.of (by rw [fr _ (by omega) (by omega) (by omega)]) (fr _ (by omega) (by omega) (by omega)) (by repeat (first | rfl | rw [q_w_ne _ _ (by omega)] | rw [q_w_row _ _ _ (by omega)] | rw [q_cw_row _ _ _ _ (by omega)])) (by repeat (first | rfl | rw [q_w_ne _ _ (by omega)] | rw [q_w_row _ _ _ (by omega)] | rw [q_cw_row _ _ _ _ (by omega)])), ⟨hl.1, lc.of (fun k a b => q3 _ (by omega)), hl.2.2.of (by repeat (first | rfl | rw [q_w_ne _ _ (by omega)] | rw [q_w_row _ _ _ (by omega)] | rw [q_cw_row _ _ _ _ (by omega)])) (by repeat (first | rfl | rw [q_w_ne _ _ (by omega)] | rw [q_w_row _ _ _ (by omega)] | rw [q_cw_row _ _ _ _ (by omega)]))⟩, ⟨yok, k2.of (fun k a b => q3 _ (by omega)), ?_, ?_⟩, q2, ⟨by omega, ?_, ?_, ?_, fun j hj => ?_⟩, hi1.of (fun k a b => fr _ (by omega) (by omega) (by omega)) (by repeat (first | rfl | rw [q_w_ne _ _ (by omega)] | rw [q_w_row _ _ _ (by omega)] | rw [q_cw_row _ _ _ _ (by omega)])) (by repeat (first | rfl | rw [q_w_ne _ _ (by omega)] | rw [q_w_row _ _ _ (by omega)] | rw [q_cw_row _ _ _ _ (by omega)])), hi2.of (fun k a b => fr _ (by omega) (by omega) (by omega)) (by repeat (first | rfl | rw [q_w_ne _ _ (by omega)] | rw [q_w_row _ _ _ (by omega)] | rw [q_cw_row _ _ _ _ (by omega)])) (by repeat (first | rfl | rw [q_w_ne _ _ (by omega)] | rw [q_w_row _ _ _ (by omega)] | rw [q_cw_row _ _ _ _ (by omega)]))⟩
    · have b4 : NMs 61 (57 * p) y n := by
        unfold NMs at b2 ⊢
        rw [yC, yH, yP, yF, yT, yW]
        exact b2
      exact b4.cp yok.1 (fun k hk => by rw [q_cw_get, if_pos (by omega), q_w_row _ _ _ (by omega)]; congr 1; omega)
    · intro k hk
      rw [yS, q_cw_get, if_neg (by omega), q_w_row _ _ _ (by omega)]
      exact hx.2.2.2 k hk
    · rw [q3 _ (by omega)]
      exact k3
    · rw [q_cw_row _ _ _ _ (by omega), q_w_same]
    · unfold aEq
      rw [yC, yH, yP, yF, yT, yW]
      exact aEq.rf _
    · obtain ⟨f1, f2, f3⟩ := a5 j (by omega)
      refine ⟨f1, f2.of (by repeat (first | rfl | rw [q_w_ne _ _ (by omega)] | rw [q_w_row _ _ _ (by omega)] | rw [q_cw_row _ _ _ _ (by omega)])), ?_⟩
      rw [fr _ (by omega) (by omega) (by omega), fr _ (by omega) (by omega) (by omega)]
      exact f3
