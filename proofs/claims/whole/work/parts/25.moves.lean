/-! the calls that change a little -/
theorem cw_zero (m : Nat → Nat → Int32) (k0 k1 sp dp : Nat) : q_cw m k0 k1 sp dp 0 = m := by
  funext k j
  rw [q_cw_get, if_neg (by omega)]
theorem cw_step (m : Nat → Nat → Int32) {k0 k1 sp dp : Nat} (c : Nat) (h : k0 ≠ k1 ∨ dp < sp) : q_cw (q_w m k1 dp (m k0 sp)) k0 k1 (sp + 1) (dp + 1) c = q_cw m k0 k1 sp dp (c + 1) := by
  funext k j
  rw [q_cw_get, q_cw_get]
  by_cases h1 : k = k1 ∧ dp + 1 ≤ j ∧ j < dp + 1 + c
  · rw [if_pos h1, if_pos (by omega), q_w_ne _ _ (by omega), show sp + 1 + (j - (dp + 1)) = sp + (j - dp) by omega]
  · rw [if_neg h1]
    by_cases h2 : k = k1 ∧ j = dp
    · rw [if_pos (by omega), h2.1, h2.2, q_w_same, Nat.sub_self, Nat.add_zero]
    · rw [if_neg (by omega), q_w_ne _ _ (by omega)]
theorem q_chr_nI : ∀ j, j < 256 → q_chr (nI j) = true := by decide +kernel
theorem E_type {m n : Nat → Nat → Int32} (h : rR m n) (a : Int32) : ∃ r m' n', F_AT_type m a = some (r, m') ∧ F_Mo_type n a = some (r, n') ∧ rR m' n' := by
  have hR := h
  obtain ⟨l, x, hz, hs, y1, y2, len, tx, ht, hl, hx, hr, hh, hi1, hi2⟩ := h
  have hl2 := ht.2.2.1
  unfold F_AT_type F_Mo_type
  rw [ht.1, ht.2.1]
  rcases in_lit a 0 255 (by decide) (by decide) with ⟨h1, h2⟩ | ⟨h1, j, h2, h3, rfl⟩
  · have h1 : F_Mo_in a 0 255 = some 0 := h1
    rw [h1, Option.bind_some, if_pos rfl]
    by_cases h0 : a < 0
    · rw [if_pos h0]
      exact ⟨_, _, _, rfl, rfl, hR⟩
    · have h4 : ¬ a ≤ 255 := fun z => h2 ⟨Int32.not_lt.mp h0, z⟩
      rw [if_neg h0, if_neg h4]
      exact ⟨_, _, _, rfl, rfl, hR⟩
  · have h1 : F_Mo_in (nI j) 0 255 = some 1 := h1
    have g1 : ¬ nI j < 0 := nI_pos (by omega)
    have g2 : nI j ≤ 255 := (nI_le h3 (by omega) : nI j ≤ nI 255)
    rw [h1, Option.bind_some, if_neg ne1, if_neg g1, if_pos g2]
    by_cases h4 : len = 200
    · subst h4
      rw [if_neg (by decide), if_pos (by decide)]
      exact ⟨_, _, _, rfl, rfl, hR⟩
    · have g3 : nI len < 200 := (nI_lt (by omega) (by omega) : nI len < nI 200)
      have g4 : ¬ nI len = 200 := fun z => h4 ((nI_eq (b := 200) (by omega) (by omega)).mp z)
      rw [if_pos g3, if_neg g4, q_chr_nI j (by omega), q_in_nI (j := len) (by omega) (by omega), nI_clamp (n := len) (by omega), i_1, nI_add]
      refine ⟨_, _, _, rfl, rfl, l, x, hz, hs, y1, y2, len + 1, fun i => if i = len then j else tx i, ⟨q_w_same _ _ _ _, q_w_same _ _ _ _, by omega, ?_⟩, ⟨hl.1, hl.2.1.of (by repeat (first | exact eqr.rf _ _ _ | refine eqr.w ?_ (by omega) | refine eqr.cw ?_ (by omega))), hl.2.2.of (by repeat (first | rfl | rw [q_w_ne _ _ (by omega)] | rw [q_w_row _ _ _ (by omega)] | rw [q_cw_row _ _ _ _ (by omega)])) (by repeat (first | rfl | rw [q_w_ne _ _ (by omega)] | rw [q_w_row _ _ _ (by omega)] | rw [q_cw_row _ _ _ _ (by omega)]))⟩, ⟨hx.1, hx.2.1.of (by repeat (first | exact eqr.rf _ _ _ | refine eqr.w ?_ (by omega) | refine eqr.cw ?_ (by omega))), hx.2.2.of (by repeat (first | rfl | rw [q_w_ne _ _ (by omega)] | rw [q_w_row _ _ _ (by omega)] | rw [q_cw_row _ _ _ _ (by omega)]))⟩, hr.of (by repeat (first | exact eqr.rf _ _ _ | refine eqr.w ?_ (by omega) | refine eqr.cw ?_ (by omega))), hh.of (by repeat (first | exact eqr.rf _ _ _ | refine eqr.w ?_ (by omega) | refine eqr.cw ?_ (by omega))) (by repeat (first | rfl | rw [q_w_ne _ _ (by omega)] | rw [q_w_row _ _ _ (by omega)] | rw [q_cw_row _ _ _ _ (by omega)])) (by repeat (first | rfl | rw [q_w_ne _ _ (by omega)] | rw [q_w_row _ _ _ (by omega)] | rw [q_cw_row _ _ _ _ (by omega)])), hi1.of (by repeat (first | exact eqr.rf _ _ _ | refine eqr.w ?_ (by omega) | refine eqr.cw ?_ (by omega))) (by repeat (first | rfl | rw [q_w_ne _ _ (by omega)] | rw [q_w_row _ _ _ (by omega)] | rw [q_cw_row _ _ _ _ (by omega)])) (by repeat (first | rfl | rw [q_w_ne _ _ (by omega)] | rw [q_w_row _ _ _ (by omega)] | rw [q_cw_row _ _ _ _ (by omega)])), hi2.of (by repeat (first | exact eqr.rf _ _ _ | refine eqr.w ?_ (by omega) | refine eqr.cw ?_ (by omega))) (by repeat (first | rfl | rw [q_w_ne _ _ (by omega)] | rw [q_w_row _ _ _ (by omega)] | rw [q_cw_row _ _ _ _ (by omega)])) (by repeat (first | rfl | rw [q_w_ne _ _ (by omega)] | rw [q_w_row _ _ _ (by omega)] | rw [q_cw_row _ _ _ _ (by omega)]))⟩
      intro i hi
      rw [q_w_row _ _ _ (show 2 ≠ 1 by omega), q_w_row _ _ _ (show 57 ≠ 56 by omega)]
      dsimp only
      by_cases e : i = len
      · rw [if_pos e, e, q_w_same, q_w_same]
        exact ⟨rfl, rfl, by omega⟩
      · rw [if_neg e, q_w_ne _ _ (by omega), q_w_ne _ _ (by omega)]
        exact ht.2.2.2 i (by omega)
theorem E_clear {m n : Nat → Nat → Int32} (h : rR m n) : ∃ r m' n', F_AT_clear m = some (r, m') ∧ F_Mo_clear n = some (r, n') ∧ rR m' n' := by
  obtain ⟨l, x, hz, hs, y1, y2, len, tx, ht, hl, hx, hr, hh, hi1, hi2⟩ := h
  unfold F_AT_clear F_Mo_clear
  rw [ht.1, ht.2.1]
  exact ⟨_, _, _, rfl, rfl, l, x, hz, hs, y1, y2, 0, tx, ⟨q_w_same _ _ _ _, q_w_same _ _ _ _, by omega, fun i hi => absurd hi (by omega)⟩, ⟨hl.1, hl.2.1.of (by repeat (first | exact eqr.rf _ _ _ | refine eqr.w ?_ (by omega) | refine eqr.cw ?_ (by omega))), hl.2.2.of (by repeat (first | rfl | rw [q_w_ne _ _ (by omega)] | rw [q_w_row _ _ _ (by omega)] | rw [q_cw_row _ _ _ _ (by omega)])) (by repeat (first | rfl | rw [q_w_ne _ _ (by omega)] | rw [q_w_row _ _ _ (by omega)] | rw [q_cw_row _ _ _ _ (by omega)]))⟩, ⟨hx.1, hx.2.1.of (by repeat (first | exact eqr.rf _ _ _ | refine eqr.w ?_ (by omega) | refine eqr.cw ?_ (by omega))), hx.2.2.of (by repeat (first | rfl | rw [q_w_ne _ _ (by omega)] | rw [q_w_row _ _ _ (by omega)] | rw [q_cw_row _ _ _ _ (by omega)]))⟩, hr.of (by repeat (first | exact eqr.rf _ _ _ | refine eqr.w ?_ (by omega) | refine eqr.cw ?_ (by omega))), hh.of (by repeat (first | exact eqr.rf _ _ _ | refine eqr.w ?_ (by omega) | refine eqr.cw ?_ (by omega))) (by repeat (first | rfl | rw [q_w_ne _ _ (by omega)] | rw [q_w_row _ _ _ (by omega)] | rw [q_cw_row _ _ _ _ (by omega)])) (by repeat (first | rfl | rw [q_w_ne _ _ (by omega)] | rw [q_w_row _ _ _ (by omega)] | rw [q_cw_row _ _ _ _ (by omega)])), hi1.of (by repeat (first | exact eqr.rf _ _ _ | refine eqr.w ?_ (by omega) | refine eqr.cw ?_ (by omega))) (by repeat (first | rfl | rw [q_w_ne _ _ (by omega)] | rw [q_w_row _ _ _ (by omega)] | rw [q_cw_row _ _ _ _ (by omega)])) (by repeat (first | rfl | rw [q_w_ne _ _ (by omega)] | rw [q_w_row _ _ _ (by omega)] | rw [q_cw_row _ _ _ _ (by omega)])), hi2.of (by repeat (first | exact eqr.rf _ _ _ | refine eqr.w ?_ (by omega) | refine eqr.cw ?_ (by omega))) (by repeat (first | rfl | rw [q_w_ne _ _ (by omega)] | rw [q_w_row _ _ _ (by omega)] | rw [q_cw_row _ _ _ _ (by omega)])) (by repeat (first | rfl | rw [q_w_ne _ _ (by omega)] | rw [q_w_row _ _ _ (by omega)] | rw [q_cw_row _ _ _ _ (by omega)]))⟩
/-- sits and waits alike, other things seen -/
theorem aEq.seen {x y : aN} (h : aEq x y) (s : Nat → Option Nat) : aEq x (y.1, y.2.1, y.2.2.1, y.2.2.2.1, y.2.2.2.2.1, y.2.2.2.2.2.1, s) := h
theorem cm_seen (l : aL) (y : aN) (s : Nat → Option Nat) : ∀ i, cm l (y.1, y.2.1, y.2.2.1, y.2.2.2.1, y.2.2.2.2.1, y.2.2.2.2.2.1, s) i = cm l y i
  | 0 => rfl
  | i + 1 => by
    unfold cm
    rw [cm_seen l y s i]
    rfl
theorem rRun.seen {l : aL} {x : aN} {m : Nat → Nat → Int32} (h : rRun l x m) (s : Nat → Option Nat) : rRun l (x.1, x.2.1, x.2.2.1, x.2.2.2.1, x.2.2.2.2.1, x.2.2.2.2.2.1, s) m := by
  have e : cm l (x.1, x.2.1, x.2.2.1, x.2.2.2.1, x.2.2.2.2.1, x.2.2.2.2.2.1, s) = cm l x := funext (cm_seen l x s)
  unfold rRun cg at h ⊢
  rw [e]
  exact h
theorem E_saw {m n : Nat → Nat → Int32} (h : rR m n) (a b : Int32) : ∃ r m' n', F_AT_saw m a b = some (r, m') ∧ F_Mo_saw n a b = some (r, n') ∧ rR m' n' := by
  have hR := h
  obtain ⟨l, x, hz, hs, y1, y2, len, tx, ht, hl, hx, hr, hh, hi1, hi2⟩ := h
  have h8 := hl.1.2.2.1
  have hP : lK l < 2 ^ 30 := by omega
  unfold F_AT_saw F_Mo_saw
  rcases ix a (lK l) hP with h | ⟨i, hi, rfl⟩
  · rw [hasPoint_bad hr.1 hP h, isPoint_bad hl.2.2.2.2.1 hP h]
    exact ⟨_, _, _, rfl, rfl, hR⟩
  · rw [hasPoint_ok hr.1 hP hi, isPoint_ok hl.2.2.2.2.1 hP hi, Option.bind_some, Option.bind_some, if_neg ne1, if_neg ne1]
    rcases in_lit b 0 15 (by decide) (by decide) with ⟨h1, h2⟩ | ⟨h1, j, h2, h3, rfl⟩
    · have h1 : F_Mo_in b 0 15 = some 0 := h1
      rw [h1, Option.bind_some, if_pos rfl]
      by_cases h0 : b < 0
      · rw [if_pos h0]
        exact ⟨_, _, _, rfl, rfl, hR⟩
      · have h4 : ¬ b ≤ 15 := fun z => h2 ⟨Int32.not_lt.mp h0, z⟩
        rw [if_neg h0, if_neg h4]
        exact ⟨_, _, _, rfl, rfl, hR⟩
    · have h1 : F_Mo_in (nI j) 0 15 = some 1 := h1
      have g1 : ¬ nI j < 0 := nI_pos (by omega)
      have g2 : nI j ≤ 15 := (nI_le h3 (by omega) : nI j ≤ nI 15)
      have hw := hx.2.2.2 i (by omega)
      rw [Nat.zero_add] at hw
      rw [h1, Option.bind_some, if_neg ne1, if_neg g1, if_pos g2, i_57, nI_add, q_in_nI (j := i) (by omega) (by omega), q_in_nI (j := 57 + i) (by omega) (by omega), nI_clamp (n := i) (by omega), nI_clamp (n := 57 + i) (by omega), hw, show m 21 i = _ from hx.2.1.2.2.2 i (by omega)]
      refine ⟨_, _, _, rfl, rfl, l, (x.1, x.2.1, x.2.2.1, x.2.2.2.1, x.2.2.2.2.1, x.2.2.2.2.2.1, fun k => if k = i then some j else xS x k), hz, hs, y1, y2, len, tx, ht.of (by repeat (first | rfl | rw [q_w_ne _ _ (by omega)] | rw [q_w_row _ _ _ (by omega)] | rw [q_cw_row _ _ _ _ (by omega)])) (by repeat (first | rfl | rw [q_w_ne _ _ (by omega)] | rw [q_w_row _ _ _ (by omega)] | rw [q_cw_row _ _ _ _ (by omega)])) (by repeat (first | rfl | rw [q_w_ne _ _ (by omega)] | rw [q_w_row _ _ _ (by omega)] | rw [q_cw_row _ _ _ _ (by omega)])) (by repeat (first | rfl | rw [q_w_ne _ _ (by omega)] | rw [q_w_row _ _ _ (by omega)] | rw [q_cw_row _ _ _ _ (by omega)])), ⟨hl.1, hl.2.1.of (by repeat (first | exact eqr.rf _ _ _ | refine eqr.w ?_ (by omega) | refine eqr.cw ?_ (by omega))), hl.2.2.of (by repeat (first | rfl | rw [q_w_ne _ _ (by omega)] | rw [q_w_row _ _ _ (by omega)] | rw [q_cw_row _ _ _ _ (by omega)])) (by repeat (first | rfl | rw [q_w_ne _ _ (by omega)] | rw [q_w_row _ _ _ (by omega)] | rw [q_cw_row _ _ _ _ (by omega)]))⟩, ⟨⟨hx.1.1, hx.1.2.1, hx.1.2.2.1, ?_⟩, ?_, ?_⟩, (hr.of (by repeat (first | exact eqr.rf _ _ _ | refine eqr.w ?_ (by omega) | refine eqr.cw ?_ (by omega)))).seen _, ?_, hi1.of (by repeat (first | exact eqr.rf _ _ _ | refine eqr.w ?_ (by omega) | refine eqr.cw ?_ (by omega))) (by repeat (first | rfl | rw [q_w_ne _ _ (by omega)] | rw [q_w_row _ _ _ (by omega)] | rw [q_cw_row _ _ _ _ (by omega)])) (by repeat (first | rfl | rw [q_w_ne _ _ (by omega)] | rw [q_w_row _ _ _ (by omega)] | rw [q_cw_row _ _ _ _ (by omega)])), hi2.of (by repeat (first | exact eqr.rf _ _ _ | refine eqr.w ?_ (by omega) | refine eqr.cw ?_ (by omega))) (by repeat (first | rfl | rw [q_w_ne _ _ (by omega)] | rw [q_w_row _ _ _ (by omega)] | rw [q_cw_row _ _ _ _ (by omega)])) (by repeat (first | rfl | rw [q_w_ne _ _ (by omega)] | rw [q_w_row _ _ _ (by omega)] | rw [q_cw_row _ _ _ _ (by omega)]))⟩
      · intro k v hk hv
        unfold xS at hv
        dsimp only at hv
        by_cases e : k = i
        · rw [if_pos e] at hv
          injection hv with hv
          omega
        · rw [if_neg e] at hv
          exact hx.1.2.2.2 k v hk hv
      · obtain ⟨c1, c2, c3, c4⟩ := hx.2.1
        refine ⟨by rw [q_w_ne _ _ (by omega)]; exact c1, fun k hk => ?_, fun k hk => ?_, fun k hk => ?_⟩
        · rw [q_w_ne _ _ (by omega), q_w_ne _ _ (by omega), q_w_ne _ _ (by omega), q_w_ne _ _ (by omega)]
          exact c2 k hk
        · rw [q_w_ne _ _ (by omega)]
          exact c3 k hk
        · unfold xS
          dsimp only
          by_cases e : k = i
          · rw [if_pos e, e]
            exact q_w_same _ _ _ _
          · rw [if_neg e, q_w_ne _ _ (by omega)]
            exact c4 k hk
      · obtain ⟨⟨c1, c2, c3⟩, c4⟩ := hx.2.2
        refine ⟨⟨by rw [q_w_ne _ _ (by omega)]; exact c1, fun k hk => ?_, fun k hk => ?_⟩, fun k hk => ?_⟩
        · have := hx.1.1
          have hk' : k < xC x := hk
          rw [q_w_ne _ _ (by omega), q_w_ne _ _ (by omega), q_w_ne _ _ (by omega), q_w_ne _ _ (by omega)]
          exact c2 k hk
        · rw [q_w_ne _ _ (by omega)]
          exact c3 k hk
        · unfold xS
          dsimp only
          by_cases e : k = i
          · rw [if_pos e, e, Nat.zero_add]
            exact q_w_same _ _ _ _
          · rw [if_neg e, q_w_ne _ _ (by omega)]
            exact c4 k hk
      · have hh := hh.of (m' := q_w m 21 i (nI j)) (n' := q_w n 60 (57 + i) (nI j)) (by repeat (first | exact eqr.rf _ _ _ | refine eqr.w ?_ (by omega) | refine eqr.cw ?_ (by omega))) (by repeat (first | rfl | rw [q_w_ne _ _ (by omega)] | rw [q_w_row _ _ _ (by omega)] | rw [q_cw_row _ _ _ _ (by omega)])) (by repeat (first | rfl | rw [q_w_ne _ _ (by omega)] | rw [q_w_row _ _ _ (by omega)] | rw [q_cw_row _ _ _ _ (by omega)]))
        exact ⟨hh.1, hh.2.1, hh.2.2.1, hh.2.2.2.1.seen _, hh.2.2.2.2⟩
theorem forget_loop : ∀ (k i fu fv : Nat) (m n : Nat → Nat → Int32) (c : Int32), i + k = 8 → k < fu → k < fv → (∀ j, i ≤ j → j < 8 → m 21 j = n 60 (57 + j)) → ∃ v m' n', FL_AT_forget_4 fu m c (nI i) = some (v, m') ∧ FL_Mo_forget_4 fv n c (nI i) = some (v, n') ∧ (∀ k, k ≠ 21 → m' k = m k) ∧ (∀ k, k ≠ 60 → n' k = n k) ∧ (∀ j, j < 57 + i → n' 60 j = n 60 j) ∧ (∀ j, j < i → m' 21 j = m 21 j) ∧ ∀ j, j < 8 → i ≤ j → m' 21 j = Int32.ofInt (-9) ∧ n' 60 (57 + j) = Int32.ofInt (-9) := by
  intro k
  induction k with
  | zero =>
    intro i fu fv m n c h1 h2 h3 he
    obtain ⟨fu, rfl⟩ : ∃ f, fu = f + 1 := ⟨fu - 1, by omega⟩
    obtain ⟨fv, rfl⟩ : ∃ f, fv = f + 1 := ⟨fv - 1, by omega⟩
    obtain rfl : i = 8 := by omega
    rw [FL_AT_forget_4, FL_Mo_forget_4, if_pos (by decide), if_pos (by decide)]
    exact ⟨_, _, _, rfl, rfl, fun _ _ => rfl, fun _ _ => rfl, fun _ _ => rfl, fun _ _ => rfl, fun j a b => absurd a (by omega)⟩
  | succ k ih =>
    intro i fu fv m n c h1 h2 h3 he
    obtain ⟨fu, rfl⟩ : ∃ f, fu = f + 1 := ⟨fu - 1, by omega⟩
    obtain ⟨fv, rfl⟩ : ∃ f, fv = f + 1 := ⟨fv - 1, by omega⟩
    have g1 : ¬ (8 : Int32) ≤ nI i := (nI_ge (by omega) (by omega) : ¬ nI 8 ≤ nI i)
    rw [FL_AT_forget_4, FL_Mo_forget_4, if_neg g1, if_neg g1, i_57, i_1, nI_add, nI_add, q_in_nI (j := i) (by omega) (by omega), q_in_nI (j := 57 + i) (by omega) (by omega), nI_clamp (n := i) (by omega), nI_clamp (n := 57 + i) (by omega), cond_true, cond_true, cond_true, cond_true, he i (by omega) (by omega), Int32.add_zero]
    have key : ∀ d, ∃ v m' n', FL_AT_forget_4 fu (q_w m 21 i (Int32.ofInt (-9))) d (nI (i + 1)) = some (v, m') ∧ FL_Mo_forget_4 fv (q_w n 60 (57 + i) (Int32.ofInt (-9))) d (nI (i + 1)) = some (v, n') ∧ (∀ k, k ≠ 21 → m' k = m k) ∧ (∀ k, k ≠ 60 → n' k = n k) ∧ (∀ j, j < 57 + i → n' 60 j = n 60 j) ∧ (∀ j, j < i → m' 21 j = m 21 j) ∧ ∀ j, j < 8 → i ≤ j → m' 21 j = Int32.ofInt (-9) ∧ n' 60 (57 + j) = Int32.ofInt (-9) := by
      intro d
      obtain ⟨v, m', n', e1, e2, e3, e4, e5, e6, e7⟩ := ih (i + 1) fu fv (q_w m 21 i (Int32.ofInt (-9))) (q_w n 60 (57 + i) (Int32.ofInt (-9))) d (by omega) (by omega) (by omega) (fun j a b => by
        rw [q_w_ne _ _ (by omega), q_w_ne _ _ (by omega)]
        exact he j (by omega) b)
      refine ⟨v, m', n', e1, e2, fun k hk => ?_, fun k hk => ?_, fun j hj => ?_, fun j hj => ?_, fun j a b => ?_⟩
      · rw [e3 k hk, q_w_row _ _ _ hk]
      · rw [e4 k hk, q_w_row _ _ _ hk]
      · rw [e5 j (by omega), q_w_ne _ _ (by omega)]
      · rw [e6 j (by omega), q_w_ne _ _ (by omega)]
      · by_cases e : j = i
        · subst e
          rw [e5 _ (by omega), e6 _ (by omega), q_w_same, q_w_same]
          exact ⟨rfl, rfl⟩
        · exact e7 j a (by omega)
    by_cases h0 : n 60 (57 + i) = Int32.ofInt (-9)
    · rw [if_pos h0, if_pos h0]
      exact key c
    · rw [if_neg h0, if_neg h0]
      exact key (c + nI 1)
theorem E_forget {m n : Nat → Nat → Int32} (h : rR m n) : ∃ r m' n', F_AT_forget m = some (r, m') ∧ F_Mo_forget n = some (r, n') ∧ rR m' n' := by
  obtain ⟨l, x, hz, hs, y1, y2, len, tx, ht, hl, hx, hr, hh, hi1, hi2⟩ := h
  have hfu := qFU_big
  have h12 := hx.1.1
  obtain ⟨v, m', n', e1, e2, e3, e4, e5, e6, e7⟩ := forget_loop 8 0 qFU qFU m n 0 (by omega) (by omega) (by omega) (fun j _ b => by
    have hw := hx.2.2.2 j b
    rw [Nat.zero_add] at hw
    rw [hw]
    exact hx.2.1.2.2.2 j b)
  refine ⟨v, m', n', ?_, ?_, l, (x.1, x.2.1, x.2.2.1, x.2.2.2.1, x.2.2.2.2.1, x.2.2.2.2.2.1, fun _ => none), hz, hs, y1, y2, len, tx, ht.of (by rw [e3 _ (by omega)]) (e3 _ (by omega)) (by rw [e4 _ (by omega)]) (e4 _ (by omega)), ⟨hl.1, hl.2.1.of (fun k a b => e3 k (by omega)), hl.2.2.of (e4 _ (by omega)) (e4 _ (by omega))⟩, ⟨⟨hx.1.1, hx.1.2.1, hx.1.2.2.1, ?_⟩, ?_, ?_⟩, (hr.of (fun k a b => e3 k (by omega))).seen _, ?_, hi1.of (fun k a b => e3 k (by omega)) (by rw [e4 _ (by omega)]) (e4 _ (by omega)), hi2.of (fun k a b => e3 k (by omega)) (by rw [e4 _ (by omega)]) (e4 _ (by omega))⟩
  · unfold F_AT_forget
    rw [show FL_AT_forget_4 qFU m 0 0 = some (v, m') from e1]
    rfl
  · unfold F_Mo_forget
    rw [show FL_Mo_forget_4 qFU n 0 0 = some (v, n') from e2]
    rfl
  · intro k v hk hv
    unfold xS at hv
    exact absurd hv (by simp)
  · obtain ⟨c1, c2, c3, c4⟩ := hx.2.1
    refine ⟨by rw [e3 _ (by omega)]; exact c1, fun k hk => ?_, fun k hk => ?_, fun k hk => (e7 k hk (by omega)).1⟩
    · rw [e3 _ (by omega), e3 _ (by omega), e3 _ (by omega), e3 _ (by omega)]
      exact c2 k hk
    · rw [e3 _ (by omega)]
      exact c3 k hk
  · obtain ⟨⟨c1, c2, c3⟩, c4⟩ := hx.2.2
    refine ⟨⟨by rw [e5 _ (by omega)]; exact c1, fun k hk => ?_, fun k hk => ?_⟩, fun k hk => ?_⟩
    · have hk' : k < xC x := hk
      rw [e5 _ (by omega), e5 _ (by omega), e5 _ (by omega), e5 _ (by omega)]
      exact c2 k hk
    · rw [e5 _ (by omega)]
      exact c3 k hk
    · rw [Nat.zero_add]
      exact (e7 k hk (by omega)).2
  · have hh := hh.of (m' := m') (n' := n') (fun k a b => e3 k (by omega)) (by rw [e4 _ (by omega)]) (e4 _ (by omega))
    exact ⟨hh.1, hh.2.1, hh.2.2.1, hh.2.2.2.1.seen _, hh.2.2.2.2⟩
