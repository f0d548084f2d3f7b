/-! worst: the reference -/
theorem lc27_loop (m : Nat → Nat → Int32) (x3 : Int32) {k : Nat} (hk : k ≤ 4) : ∀ d i fu e, i + d = k ∨ (d = 0 ∧ k ≤ i ∧ i ≤ 5) → d < fu → FL_Mo_laysCourse_27 fu m (nI k) x3 (nI (8 ^ e)) (nI i) = some (nI (8 ^ (e + d))) := by
  intro d
  induction d with
  | zero =>
    intro i fu e e1 e2
    obtain ⟨fu, rfl⟩ : ∃ f, fu = f + 1 := ⟨fu - 1, by omega⟩
    rw [FL_Mo_laysCourse_27, if_pos (nI_le (by omega) (by omega)), Nat.add_zero]
  | succ d ih =>
    intro i fu e e1 e2
    obtain ⟨fu, rfl⟩ : ∃ f, fu = f + 1 := ⟨fu - 1, by omega⟩
    rw [FL_Mo_laysCourse_27, if_neg (nI_ge (by omega) (by omega)), i_8, pk_mul, nI_1, ← Nat.pow_succ]
    have := ih (i + 1) fu (e + 1) (by omega) (by omega)
    rw [show e + 1 + d = e + (d + 1) by omega] at this
    exact this
theorem w34_loop (m : Nat → Nat → Int32) (x1 x3 : Int32) {k : Nat} (hk : k ≤ 4) : ∀ d i fu e, i + d = k → d < fu → FL_Mo_worst_34 fu m x1 (nI k) x3 (nI (8 ^ e)) (nI i) = some (nI (8 ^ (e + d))) := by
  intro d
  induction d with
  | zero =>
    intro i fu e e1 e2
    obtain ⟨fu, rfl⟩ : ∃ f, fu = f + 1 := ⟨fu - 1, by omega⟩
    rw [FL_Mo_worst_34, if_pos (nI_le (by omega) (by omega)), Nat.add_zero]
  | succ d ih =>
    intro i fu e e1 e2
    obtain ⟨fu, rfl⟩ : ∃ f, fu = f + 1 := ⟨fu - 1, by omega⟩
    rw [FL_Mo_worst_34, if_neg (nI_ge (by omega) (by omega)), i_8, pk_mul, nI_1, ← Nat.pow_succ]
    have := ih (i + 1) fu (e + 1) (by omega) (by omega)
    rw [show e + 1 + d = e + (d + 1) by omega] at this
    exact this
theorem pw8 : ∀ k, k < 6 → 8 ^ k < 40000 := by decide +kernel
theorem lc49_loop {l : aL} (hk : aLok l) {k code : Nat} (hk4 : k ≤ 4) (hcode : code < 2 ^ 20) : ∀ (n i fu : Nat) (c : Nat → Nat) (m : Nat → Nat → Int32), i + n = k + 1 → 1 ≤ i → n < fu → LMo l m → (∀ j, j < i → c j < lP l) → (∀ j, j < i → m 65 j = nI (c j) ∧ m 66 j = nI (mt l c j)) → ∃ m', (match lay l code n i c with | none => FL_Mo_laysCourse_49 fu m (nI k) (nI code) (nI (8 ^ n / 8)) (nI i) = some (.inl (0, m')) | some c' => FL_Mo_laysCourse_49 fu m (nI k) (nI code) (nI (8 ^ n / 8)) (nI i) = some (.inr m') ∧ (∀ j, j < k + 1 → m' 65 j = nI (c' j) ∧ m' 66 j = nI (mt l c' j)) ∧ ∀ j, j < k + 1 → c' j < lP l) ∧ ∀ q, q ≠ 65 → q ≠ 66 → m' q = m q := by
  have p8 := hk.1.2
  intro n
  induction n with
  | zero =>
    intro i fu c m e1 e2 e3 hm hcp hr
    obtain ⟨fu, rfl⟩ : ∃ f, fu = f + 1 := ⟨fu - 1, by omega⟩
    rw [lay]
    refine ⟨m, ⟨?_, fun j hj => hr j (by omega), fun j hj => hcp j (by omega)⟩, fun _ _ _ => rfl⟩
    rw [FL_Mo_laysCourse_49, if_pos (nI_lt (by omega) (by omega))]
  | succ n ih =>
    intro i fu c m e1 e2 e3 hm hcp hr
    obtain ⟨fu, rfl⟩ : ∃ f, fu = f + 1 := ⟨fu - 1, by omega⟩
    obtain ⟨p, rfl⟩ : ∃ p, i = p + 1 := ⟨i - 1, by omega⟩
    have pw := pw8 n (by omega)
    have pp : 0 < 8 ^ n := Nat.pow_pos (by omega)
    have u1 : 8 ^ (n + 1) / 8 = 8 ^ n := by rw [Nat.pow_succ, Nat.mul_div_cancel _ (by omega)]
    have d0 : code / 8 ^ n ≤ code := Nat.div_le_self _ _
    obtain ⟨D, hD⟩ : ∃ D, D = code / 8 ^ n % 8 := ⟨_, rfl⟩
    have d1 : nI code / nI (8 ^ n) = nI (code / 8 ^ n) := pk_div (by omega) pp (by omega)
    have d2 : nI (code / 8 ^ n) - nI (code / 8 ^ n) / 8 * 8 = nI D := by
      rw [hD]
      exact pk_rem (d := 8) (by omega) (by omega) (by omega)
    have d8 : D < 8 := by omega
    have cp := hcp p (by omega)
    have f9 := hk.2.2.2.2.2.2.1 (8 * c p + D) (by omega)
    have fl := hm.2.2.2.2.2.2.1 (8 * c p + D) (by omega)
    rw [lay, ← hD, Nat.add_sub_cancel, u1]
    have g0 : ¬ nI (8 ^ n) = 0 := nI_ne0 pp (by omega)
    have head : FL_Mo_laysCourse_49 (fu + 1) m (nI k) (nI code) (nI (8 ^ n)) (nI (p + 1)) = Option.bind (F_Mo_isPlace m (nI D)) (fun r3 => if r3 = 0 then some (.inl (0, m)) else if nI (lF l (8 * c p + D)) = 0 then some (.inl (0, m)) else FL_Mo_laysCourse_49 fu (q_w (q_w m 65 (p + 1) (nI D)) 66 (p + 1) (nI (mt l c p + lF l (8 * c p + D) + p * lT l))) (nI k) (nI code) (nI (8 ^ n / 8)) (nI (p + 1 + 1))) := by
      have x8 : nI (8 ^ n) / 8 = nI (8 ^ n / 8) := pk_div (d := 8) (by omega) (by omega) (by omega)
      rw [FL_Mo_laysCourse_49, if_neg (nI_nlt (by omega) (by omega)), if_neg g0, d1, d2, nI_pred, q_in_nI (j := p) (by omega) (by omega), q_in_nI (j := p + 1) (by omega) (by omega), nI_clamp (n := p) (by omega), nI_clamp (n := p + 1) (by omega), q_w_ne _ _ (show 65 ≠ 65 ∨ p ≠ p + 1 by omega), (hr p (by omega)).1, (hr p (by omega)).2, i_8, pk_mul, i_21, nI_add, nI_add, show 21 + 8 * c p + D = 21 + (8 * c p + D) by omega, q_in_nI (j := 21 + (8 * c p + D)) (by omega) (by omega), nI_clamp (n := 21 + (8 * c p + D)) (by omega), fl, hm.2.2.2.2.1, pk_mul, nI_add, nI_add, nI_1, ← i_8, x8]
      rfl
    rw [head]
    by_cases z1 : D < lP l
    · rw [isPlace_ok hm.1 (by omega) z1, Option.bind_some, if_neg ne1]
      by_cases z2 : lF l (8 * c p + D) = 0
      · rw [if_neg (fun z => z.2 z2), z2, if_pos (show nI 0 = 0 from rfl)]
        exact ⟨m, rfl, fun _ _ _ => rfl⟩
      · rw [if_pos ⟨z1, z2⟩, if_neg (nI_ne0 (by omega) (by omega))]
        have cs : up1 c (p + 1) D (p + 1) = D := up1_same _ _ _
        have cpp : up1 c (p + 1) D p = c p := up1_ne _ _ (by omega)
        have mtp : ∀ j, j < p + 1 → mt l (up1 c (p + 1) D) j = mt l c j := fun j hj => mt_cg l j (fun q hq => up1_ne _ _ (by omega))
        obtain ⟨m', a1, a2⟩ := ih (p + 1 + 1) fu (up1 c (p + 1) D) (q_w (q_w m 65 (p + 1) (nI D)) 66 (p + 1) (nI (mt l c p + lF l (8 * c p + D) + p * lT l))) (by omega) (by omega) (by omega) (hm.of (by repeat (first | rfl | rw [q_w_ne _ _ (by omega)] | rw [q_w_row _ _ _ (by omega)] | rw [q_cw_row _ _ _ _ (by omega)])) (by repeat (first | rfl | rw [q_w_ne _ _ (by omega)] | rw [q_w_row _ _ _ (by omega)] | rw [q_cw_row _ _ _ _ (by omega)]))) (fun j hj => by
          by_cases zj : j = p + 1
          · rw [zj, cs]
            exact z1
          · rw [up1_ne _ _ zj]
            exact hcp j (by omega)) (fun j hj => by
          rw [q_w_row _ _ _ (show 65 ≠ 66 by omega)]
          by_cases zj : j = p + 1
          · rw [zj, q_w_same, q_w_same, cs, mt, mtp p (by omega), cs, cpp]
            exact ⟨rfl, rfl⟩
          · rw [q_w_ne _ _ (by omega), q_w_ne _ _ (by omega), q_w_row _ _ _ (by omega), up1_ne _ _ zj, mtp j (by omega)]
            exact hr j (by omega))
        exact ⟨m', a1, fun q q1 q2 => by rw [a2 q q1 q2, q_w_row _ _ _ q2, q_w_row _ _ _ q1]⟩
    · rw [isPlace_bad hm.1 (by omega) (Or.inr (nI_le (by omega) (by omega))), Option.bind_some, if_pos rfl, if_neg (fun z => z1 z.1)]
      exact ⟨m, rfl, fun _ _ _ => rfl⟩
