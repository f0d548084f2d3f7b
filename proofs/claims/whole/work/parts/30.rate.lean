/-! rate and trace -/
theorem sitsOf_eq {l : aL} {x : aN} {m n : Nat → Nat → Int32} (hx : aNok l x ∧ NCl 15 x m ∧ NMo 60 0 x n) (lm : Nat → Int64) (a h c3 r : Int32) : ∀ (k i fu fv : Nat) (c : Int32), i + k = xC x → k < fu → k < fv → ∃ s, FL_No_sitsOf_15_4 fu m h c (nI i) = some s ∧ FL_Mo_rate_103 fv n lm a h c3 (r + c) (nI i) = some (r + s) := by
  have h12 := hx.1.1
  have e0 : n 60 0 = nI (xC x) := hx.2.2.1.1
  intro k
  induction k with
  | zero =>
    intro i fu fv c e1 e2 e3
    obtain ⟨fu, rfl⟩ : ∃ f, fu = f + 1 := ⟨fu - 1, by omega⟩
    obtain ⟨fv, rfl⟩ : ∃ f, fv = f + 1 := ⟨fv - 1, by omega⟩
    rw [FL_No_sitsOf_15_4, FL_Mo_rate_103, e0, hx.2.1.1, if_pos (nI_le (by omega) (by omega)), if_pos (nI_le (by omega) (by omega))]
    exact ⟨_, rfl, rfl⟩
  | succ k ih =>
    intro i fu fv c e1 e2 e3
    obtain ⟨fu, rfl⟩ : ∃ f, fu = f + 1 := ⟨fu - 1, by omega⟩
    obtain ⟨fv, rfl⟩ : ∃ f, fv = f + 1 := ⟨fv - 1, by omega⟩
    have g1 : ¬ nI (xC x) ≤ nI i := nI_ge (by omega) (by omega)
    have c1 : m 16 i = nI (xH x i) := (hx.2.1.2.1 i (by omega)).1
    have n1 := (hx.2.2.1.2.1 i (by omega)).1
    rw [Nat.zero_add] at n1
    rw [FL_No_sitsOf_15_4, FL_Mo_rate_103, e0, hx.2.1.1, if_neg g1, if_neg g1, nI_1, show (1 : Int32) + nI i = nI (1 + i) from nI_add 1 i, q_in_nI (j := i) (by omega) (by omega), q_in_nI (j := 1 + i) (by omega) (by omega), nI_clamp (n := i) (by omega), nI_clamp (n := 1 + i) (by omega), c1, n1, cond_true, cond_true, Int32.add_zero, Int32.add_assoc]
    by_cases g2 : nI (xH x i) = h
    · rw [if_pos g2, if_pos g2]
      exact ih (i + 1) fu fv _ (by omega) (by omega) (by omega)
    · rw [if_neg g2, if_neg g2]
      exact ih (i + 1) fu fv _ (by omega) (by omega) (by omega)
theorem others_eq {l : aL} {m n : Nat → Nat → Int32} (hl : aLok l ∧ LCl l m ∧ LMo l n) (lm : Nat → Int64) (a c3 c4 r : Int32) {h : Nat} (hh : h < lH l) : ∀ (k i fu fv : Nat) (c : Int32), i + k = lH l → k < fu → k < fv → ∃ s, FL_La_othersMarkedAs_9_4 fu m (nI h) c (nI i) = some s ∧ FL_Mo_rate_151 fv n lm a (nI h) c3 c4 (if i ≤ h then r - c + 1 else r - c) (nI i) = some (r - s) := by
  have h5 := hl.1.2.1
  have c1 : ∀ i, i < lH l → m 13 i = nI (lM l i) := hl.2.1.2.2.2.2.2.2.2.2.2.1
  have n1 : ∀ i, i < lH l → n 58 (8 + i) = nI (lM l i) := hl.2.2.2.2.2.2.2.2.2.2.2.1
  intro k
  induction k with
  | zero =>
    intro i fu fv c e1 e2 e3
    obtain ⟨fu, rfl⟩ : ∃ f, fu = f + 1 := ⟨fu - 1, by omega⟩
    obtain ⟨fv, rfl⟩ : ∃ f, fv = f + 1 := ⟨fv - 1, by omega⟩
    rw [FL_La_othersMarkedAs_9_4, FL_Mo_rate_151, hl.2.1.2.1, hl.2.2.2.1, if_pos (nI_le (by omega) (by omega)), if_pos (nI_le (by omega) (by omega)), if_neg (by omega)]
    exact ⟨_, rfl, rfl⟩
  | succ k ih =>
    intro i fu fv c e1 e2 e3
    obtain ⟨fu, rfl⟩ : ∃ f, fu = f + 1 := ⟨fu - 1, by omega⟩
    obtain ⟨fv, rfl⟩ : ∃ f, fv = f + 1 := ⟨fv - 1, by omega⟩
    have g1 : ¬ nI (lH l) ≤ nI i := nI_ge (by omega) (by omega)
    rw [FL_La_othersMarkedAs_9_4, FL_Mo_rate_151, hl.2.1.2.1, hl.2.2.2.1, if_neg g1, if_neg g1, nI_1, i_8, nI_add, nI_add, q_in_nI (j := i) (by omega) (by omega), q_in_nI (j := h) (by omega) (by omega), q_in_nI (j := 8 + i) (by omega) (by omega), q_in_nI (j := 8 + h) (by omega) (by omega), nI_clamp (n := i) (by omega), nI_clamp (n := h) (by omega), nI_clamp (n := 8 + i) (by omega), nI_clamp (n := 8 + h) (by omega), c1 i (by omega), c1 h hh, n1 i (by omega), n1 h hh, cond_true, cond_true, cond_true, cond_true, Int32.sub_zero]
    by_cases g2 : i = h
    · subst g2
      obtain ⟨s, s1, s2⟩ := ih (i + 1) fu fv c (by omega) (by omega) (by omega)
      rw [if_neg (by omega)] at s2
      rw [if_pos rfl, if_pos rfl, if_pos (by omega), Int32.add_sub_cancel]
      exact ⟨s, s1, s2⟩
    · have g3 : ¬ nI i = nI h := fun z => g2 ((nI_eq (by omega) (by omega)).mp z)
      rw [if_neg g3]
      have e : (if i + 1 ≤ h then r - c + 1 else r - c) = (if i ≤ h then r - c + 1 else r - c) := by
        by_cases g4 : i ≤ h
        · rw [if_pos g4, if_pos (by omega)]
        · rw [if_neg g4, if_neg (by omega)]
      by_cases g4 : nI (lM l i) = nI (lM l h)
      · rw [if_pos g4, if_pos g4]
        obtain ⟨s, s1, s2⟩ := ih (i + 1) fu fv (c + 1) (by omega) (by omega) (by omega)
        refine ⟨s, s1, ?_⟩
        rw [← s2]
        congr 1
        by_cases g5 : i ≤ h
        · rw [if_pos g5, if_pos (by omega), Int32.add_sub_cancel, ← Int32.sub_sub, Int32.sub_add_cancel]
        · rw [if_neg g5, if_neg (by omega), Int32.sub_sub]
      · rw [if_neg g4, if_neg g4]
        obtain ⟨s, s1, s2⟩ := ih (i + 1) fu fv c (by omega) (by omega) (by omega)
        rw [e] at s2
        exact ⟨s, s1, s2⟩
theorem up_same (lm : Nat → Int64) (k : Nat) (x : Int64) : va_up lm k x k = x := by unfold va_up; rw [if_pos rfl]
theorem up_ne (lm : Nat → Int64) {k j : Nat} (x : Int64) (h : j ≠ k) : va_up lm k x j = lm j := by unfold va_up; rw [if_neg h]
theorem ra_no (dn : Nat) (m : Nat → Nat → Int32) (lm : Nat → Int64) (a d : Int32) : F_AT_rateAs (dn + 1) m lm (-1) a d = some (0, lm) := by
  rw [F_AT_rateAs, if_pos (by decide)]
theorem ra_0 (dn : Nat) {m : Nat → Nat → Int32} (lm : Nat → Int64) {h M d : Nat} (hh : h < 5) (hM : m 13 h = nI M) (h16 : M < 32) (hd : d < 6) : F_AT_rateAs (dn + 2) m lm 0 (nI h) (nI d) = some (nI (pcn M), va_up lm 0 (lm 0 + 1)) := by
  have g : nI d < 6 := (nI_lt hd (by omega) : nI d < nI 6)
  rw [F_AT_rateAs, if_neg (by decide), if_neg (by decide), if_pos g, show (q_in 0 6 && Nat.ble 6 1000000) = true by decide, cond_true, cond_true, show q_ab (0 : Int32).toNatClampNeg = -1 by decide, ra_no, Option.bind_some]
  dsimp only
  rw [if_neg (by decide), if_neg (by decide), if_neg (by decide), if_neg (by decide), if_neg (by decide), q_in_nI (by omega) (by omega), cond_true, nI_clamp (by omega), hM, bitCount_ok M h16, Option.bind_some, show (q_tr (0 : Int32).toNatClampNeg).toInt64 = 1 by decide]
theorem ra_1 (dn : Nat) {m : Nat → Nat → Int32} (lm : Nat → Int64) {h M d : Nat} {s : Int32} (hh : h < 5) (hM : m 13 h = nI M) (h16 : M < 32) (hd : d < 5) (hs : F_No_sitsOf_15 m (nI h) = some s) : ∃ lm', F_AT_rateAs (dn + 3) m lm 1 (nI h) (nI d) = some (nI (pcn M) + s, lm') ∧ lm' 0 = lm 0 + 11 ∧ ∀ k, k ≠ 0 → lm' k = lm k := by
  have g : nI d < 6 := (nI_lt (by omega) (by omega) : nI d < nI 6)
  rw [F_AT_rateAs, if_neg (by decide), if_neg (by decide), if_pos g, show (q_in 1 6 && Nat.ble 6 1000000) = true by decide, cond_true, cond_true, show q_ab (1 : Int32).toNatClampNeg = 0 by decide, nI_1, ra_0 dn _ hh hM h16 (by omega), Option.bind_some]
  dsimp only
  rw [if_pos rfl, hs, Option.bind_some, show (q_tr (1 : Int32).toNatClampNeg).toInt64 = 10 by decide]
  refine ⟨_, rfl, ?_, fun k hk => ?_⟩
  · rw [up_same, up_same, Int64.add_assoc]
    rfl
  · rw [up_ne _ _ hk, up_ne _ _ hk]
theorem ra_2 (dn : Nat) {m : Nat → Nat → Int32} (lm : Nat → Int64) {h M d : Nat} {s : Int32} (hh : h < 5) (hM : m 13 h = nI M) (h16 : M < 32) (hd : d < 5) (hs : F_La_othersMarkedAs_9 m (nI h) = some s) : ∃ lm', F_AT_rateAs (dn + 3) m lm 2 (nI h) (nI d) = some (nI (pcn M) - s, lm') ∧ lm' 0 = lm 0 + 101 ∧ ∀ k, k ≠ 0 → lm' k = lm k := by
  have g : nI d < 6 := (nI_lt (by omega) (by omega) : nI d < nI 6)
  rw [F_AT_rateAs, if_neg (by decide), if_neg (by decide), if_pos g, show (q_in 2 6 && Nat.ble 6 1000000) = true by decide, cond_true, cond_true, show q_ab (2 : Int32).toNatClampNeg = 0 by decide, nI_1, ra_0 dn _ hh hM h16 (by omega), Option.bind_some]
  dsimp only
  rw [if_neg (by decide), if_pos rfl, hs, Option.bind_some, show (q_tr (2 : Int32).toNatClampNeg).toInt64 = 100 by decide]
  refine ⟨_, rfl, ?_, fun k hk => ?_⟩
  · rw [up_same, up_same, Int64.add_assoc]
    rfl
  · rw [up_ne _ _ hk, up_ne _ _ hk]
theorem E_rate {l : aL} {x : aN} {m n : Nat → Nat → Int32} (hl : aLok l ∧ LCl l m ∧ LMo l n) (hx : aNok l x ∧ NCl 15 x m ∧ NMo 60 0 x n) (hr : rRun l x m) (lm : Nat → Int64) (he : lm 0 = lm 56) (a b : Int32) : ∃ r lm1 lm2, F_AT_rate m lm a b = some (r, lm1) ∧ F_Mo_rate n lm1 a b = some (r, lm2) ∧ lm2 0 = lm2 56 := by
  have h5 := hl.1.2.1
  have hfu := qFU_big
  unfold F_AT_rate
  rcases in_lit a 0 5 (by decide) (by decide) with ⟨h1, h2⟩ | ⟨h1, j, h2, h3, rfl⟩
  · have h1 : F_Mo_in a 0 5 = some 0 := h1
    have e : F_Mo_rate n lm a b = some (Int32.ofInt (-1000000), lm) := by
      unfold F_Mo_rate
      rw [h1]
      rfl
    by_cases h0 : a < 0
    · rw [if_pos h0]
      exact ⟨_, _, _, rfl, e, he⟩
    · have h4 : 6 ≤ a := by
        obtain ⟨j, hj, rfl⟩ := nI_of h0
        apply (nI_leI (a := 6) (by omega) hj).mpr
        apply Classical.byContradiction
        intro z
        exact h2 ⟨nI_pos' hj, nI_le (by omega) (by omega)⟩
      rw [if_neg h0, if_pos h4]
      exact ⟨_, _, _, rfl, e, he⟩
  · have h1 : F_Mo_in (nI j) 0 5 = some 1 := h1
    have g1 : ¬ nI j < 0 := nI_pos (by omega)
    have g2 : ¬ 6 ≤ nI j := (nI_ge (by omega) (by omega) : ¬ nI 6 ≤ nI j)
    rw [if_neg g1, if_neg g2]
    rcases ix b (lH l) (by omega) with h | ⟨h, hh, rfl⟩
    · have e : F_Mo_rate n lm (nI j) b = some (Int32.ofInt (-1000000), lm) := by
        unfold F_Mo_rate
        rw [h1, Option.bind_some, if_neg ne1, isHog_bad hl.2.2.2.1 (by omega) h]
        rfl
      rw [hasHog_bad hl.2.1.2.1 (by omega) h]
      exact ⟨_, _, _, rfl, e, he⟩
    · rw [hasHog_ok hl.2.1.2.1 (by omega) hh, Option.bind_some, if_neg ne1]
      have hM := hl.1.2.2.2.2.2.2.2.2.1 h hh
      have c1 : m 13 h = nI (lM l h) := hl.2.1.2.2.2.2.2.2.2.2.2.1 h hh
      have n1 : n 58 (8 + h) = nI (lM l h) := hl.2.2.2.2.2.2.2.2.2.2.2.1 h hh
      obtain ⟨R, hR⟩ : ∃ R, R = nI (pcn (lM l h)) := ⟨_, rfl⟩
      obtain ⟨sw, w1, w2⟩ : ∃ s, F_No_sitsOf_15 m (nI h) = some s ∧ ∀ lm, FL_Mo_rate_103 qFU n lm (nI j) (nI h) R R 0 = some (R + s) := by
        obtain ⟨s, s1, _⟩ := sitsOf_eq hx lm (nI j) (nI h) R R (xC x) 0 qFU qFU 0 (by omega) (by have := hx.1.1; omega) (by have := hx.1.1; omega)
        refine ⟨s, ?_, fun lm => ?_⟩
        · unfold F_No_sitsOf_15
          rw [show FL_No_sitsOf_15_4 qFU m (nI h) 0 0 = some s from s1]
          rfl
        · obtain ⟨s', s1', s2'⟩ := sitsOf_eq hx lm (nI j) (nI h) R R (xC x) 0 qFU qFU 0 (by omega) (by have := hx.1.1; omega) (by have := hx.1.1; omega)
          have ee := Option.some.inj (s1.symm.trans s1')
          rw [← ee] at s2'
          rw [Int32.add_zero] at s2'
          exact s2'
      obtain ⟨st, t1, t2⟩ : ∃ s, F_La_othersMarkedAs_9 m (nI h) = some s ∧ ∀ lm w, FL_Mo_rate_151 qFU n lm (nI j) (nI h) R w (R + 1) 0 = some (R - s) := by
        obtain ⟨s, s1, _⟩ := others_eq hl lm (nI j) R R R hh (lH l) 0 qFU qFU 0 (by omega) (by omega) (by omega)
        refine ⟨s, ?_, fun lm w => ?_⟩
        · unfold F_La_othersMarkedAs_9
          rw [show FL_La_othersMarkedAs_9_4 qFU m (nI h) 0 0 = some s from s1]
          rfl
        · obtain ⟨s', s1', s2'⟩ := others_eq hl lm (nI j) R w R hh (lH l) 0 qFU qFU 0 (by omega) (by omega) (by omega)
          have ee := Option.some.inj (s1.symm.trans s1')
          rw [← ee] at s2'
          rw [if_pos (by omega), Int32.sub_zero] at s2'
          exact s2'
      have key : ∀ (r : Int32) (lm1 : Nat → Int64) (t : Int64), F_AT_rateAs 20 m lm (nI j) (nI h) 0 = some (r, lm1) → lm1 0 = lm 0 + t → (∀ k, k ≠ 0 → lm1 k = lm k) → F_Mo_rate n lm1 (nI j) (nI h) = some (r, va_up lm1 56 (lm1 56 + t)) → ∃ r lm1 lm2, (Option.bind (F_AT_rateAs 20 m lm (nI j) (nI h) 0) fun x => match x with | (r6, lm7) => some (r6, lm7)) = some (r, lm1) ∧ F_Mo_rate n lm1 (nI j) (nI h) = some (r, lm2) ∧ lm2 0 = lm2 56 := by
        intro r lm1 t q1 q2 q3 q4
        refine ⟨r, lm1, _, ?_, q4, ?_⟩
        · rw [q1]
          rfl
        · rw [up_same, up_ne _ _ (by omega), q2, q3 _ (by omega), he]
      have ref : ∀ lm1, F_Mo_rate n lm1 (nI j) (nI h) = if nI j = 0 then some (R, va_up lm1 56 (lm1 56 + 1)) else if nI j = 1 then some (R + sw, va_up lm1 56 (lm1 56 + 11)) else if nI j = 2 then some (R - st, va_up lm1 56 (lm1 56 + 101)) else if nI j = 3 then some (2 * (R + sw), va_up lm1 56 (lm1 56 + 1011)) else if nI j = 4 then some (R - st + nI h, va_up lm1 56 (lm1 56 + 10101)) else some (R + nI (lK l), va_up lm1 56 (lm1 56 + 100001)) := by
        intro lm1
        unfold F_Mo_rate
        rw [h1, Option.bind_some, if_neg ne1, isHog_ok hl.2.2.2.1 (by omega) hh, Option.bind_some, if_neg ne1, i_8, nI_add, q_in_nI (j := 8 + h) (by omega) (by omega), nI_clamp (n := 8 + h) (by omega), n1, ones_ok (lM l h) (by omega), ← hR]
        simp only [cond_true, Option.bind_some, w2, t2, hl.2.2.2.2.1]
        obtain rfl | rfl | rfl | rfl | rfl | rfl : j = 0 ∨ j = 1 ∨ j = 2 ∨ j = 3 ∨ j = 4 ∨ j = 5 := by omega
        all_goals rfl
      have r0 := fun lm d hd => ra_0 17 (m := m) lm (h := h) (d := d) (by omega) c1 (by omega) hd
      obtain rfl | rfl | rfl | rfl | rfl | rfl : j = 0 ∨ j = 1 ∨ j = 2 ∨ j = 3 ∨ j = 4 ∨ j = 5 := by omega
      · have q := ra_0 18 (m := m) lm (h := h) (d := 0) (by omega) c1 (by omega) (by omega)
        exact key _ _ 1 q (up_same _ _ _) (fun k hk => up_ne _ _ hk) (by rw [ref, if_pos (by decide), hR])
      · obtain ⟨lm', q1, q2, q3⟩ := ra_1 17 (m := m) lm (h := h) (d := 0) (by omega) c1 (by omega) (by omega) w1
        exact key _ _ 11 q1 q2 q3 (by rw [ref, if_neg (by decide), if_pos (by decide), hR])
      · obtain ⟨lm', q1, q2, q3⟩ := ra_2 17 (m := m) lm (h := h) (d := 0) (by omega) c1 (by omega) (by omega) t1
        exact key _ _ 101 q1 q2 q3 (by rw [ref, if_neg (by decide), if_neg (by decide), if_pos (by decide), hR])
      · obtain ⟨lm', q1, q2, q3⟩ := ra_1 16 (m := m) (va_up lm 0 (lm 0 + 1000)) (h := h) (d := 1) (by omega) c1 (by omega) (by omega) w1
        refine key (2 * (nI (pcn (lM l h)) + sw)) lm' 1011 ?_ ?_ ?_ (by rw [ref, if_neg (by decide), if_neg (by decide), if_neg (by decide), if_pos (by decide), hR])
        · rw [F_AT_rateAs, if_neg (by decide), if_neg (by decide), if_pos (by decide), show (q_in (nI 3) 6 && Nat.ble 6 1000000) = true by decide, cond_true, cond_true, show q_ab (nI 3).toNatClampNeg = 1 by decide, show (q_tr (nI 3).toNatClampNeg).toInt64 = 1000 by decide, show (0 : Int32) + 1 = nI 1 from rfl, q1, Option.bind_some]
          dsimp only
          rw [if_neg (by decide), if_neg (by decide), if_pos (by decide)]
        · rw [q2, up_same, Int64.add_assoc]
          rfl
        · intro k hk
          rw [q3 k hk, up_ne _ _ hk]
      · obtain ⟨lm', q1, q2, q3⟩ := ra_2 16 (m := m) (va_up lm 0 (lm 0 + 10000)) (h := h) (d := 1) (by omega) c1 (by omega) (by omega) t1
        refine key (nI (pcn (lM l h)) - st + nI h) lm' 10101 ?_ ?_ ?_ (by rw [ref, if_neg (by decide), if_neg (by decide), if_neg (by decide), if_neg (by decide), if_pos (by decide), hR])
        · rw [F_AT_rateAs, if_neg (by decide), if_neg (by decide), if_pos (by decide), show (q_in (nI 4) 6 && Nat.ble 6 1000000) = true by decide, cond_true, cond_true, show q_ab (nI 4).toNatClampNeg = 2 by decide, show (q_tr (nI 4).toNatClampNeg).toInt64 = 10000 by decide, show (0 : Int32) + 1 = nI 1 from rfl, q1, Option.bind_some]
          dsimp only
          rw [if_neg (by decide), if_neg (by decide), if_neg (by decide), if_pos (by decide)]
        · rw [q2, up_same, Int64.add_assoc]
          rfl
        · intro k hk
          rw [q3 k hk, up_ne _ _ hk]
      · have q1 := ra_0 17 (m := m) (va_up lm 0 (lm 0 + 100000)) (h := h) (d := 1) (by omega) c1 (by omega) (by omega)
        refine key (nI (pcn (lM l h)) + nI (lK l)) (va_up (va_up lm 0 (lm 0 + 100000)) 0 (va_up lm 0 (lm 0 + 100000) 0 + 1)) 100001 ?_ ?_ ?_ (by rw [ref, if_neg (by decide), if_neg (by decide), if_neg (by decide), if_neg (by decide), if_neg (by decide), hR])
        · rw [F_AT_rateAs, if_neg (by decide), if_neg (by decide), if_pos (by decide), show (q_in (nI 5) 6 && Nat.ble 6 1000000) = true by decide, cond_true, cond_true, show q_ab (nI 5).toNatClampNeg = 0 by decide, show (q_tr (nI 5).toNatClampNeg).toInt64 = 100000 by decide, show (0 : Int32) + 1 = nI 1 from rfl, q1, Option.bind_some]
          dsimp only
          rw [if_neg (by decide), if_neg (by decide), if_neg (by decide), if_neg (by decide), if_pos (by decide), hr.1]
        · rw [up_same, up_same, Int64.add_assoc]
          rfl
        · intro k hk
          rw [up_ne _ _ hk, up_ne _ _ hk]
