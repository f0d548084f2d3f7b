/-! the run along the course -/
theorem stepLoop_39 {l : aL} {m : Nat → Nat → Int32} (hk : aLok l) (hc : LCl l m) {s : Nat} (hs : s ≤ 8) {c t : Nat → Nat} (h0 : m 39 0 = nI s) (h1 : ∀ i, i < s → m 40 i = nI (c i) ∧ m 41 i = nI (t i)) (hP : ∀ i, i ≤ s → c i < lP l) (hT : ∀ i, i ≤ s → t i ≤ t s) (hB : t s < 2 ^ 20) : ∀ k i fu, i + k = s → k < fu → FL_Ru_stepTo_39_9_78 fu m (nI (c s)) (nI (t s)) (nI (rb (fun j => can (lW l) (lS l) c t j s) i)) (nI i) = some (nI (rb (fun j => can (lW l) (lS l) c t j s) s)) := by
  intro k
  induction k with
  | zero =>
    intro i fu e1 e2
    obtain ⟨fu, rfl⟩ : ∃ f, fu = f + 1 := ⟨fu - 1, by omega⟩
    obtain rfl : i = s := by omega
    rw [FL_Ru_stepTo_39_9_78, h0, if_pos (nI_le (by omega) (by omega))]
  | succ k ih =>
    intro i fu e1 e2
    obtain ⟨fu, rfl⟩ : ∃ f, fu = f + 1 := ⟨fu - 1, by omega⟩
    have ih := ih (i + 1) fu (by omega) (by omega)
    have g1 : ¬ nI s ≤ nI i := nI_ge (by omega) (by omega)
    obtain ⟨a1, a2⟩ := h1 i (by omega)
    have ti := hT i (by omega)
    rw [FL_Ru_stepTo_39_9_78, h0, if_neg g1, q_in_nI (j := i) (by omega) (by omega), nI_clamp (n := i) (by omega), cond_true, a1, a2, wayBetween_ok hk hc (hP i (by omega)) (hP s (by omega)), Option.bind_some, i_1, nI_add, pk_sub ti, ← i_1, nI_shl1 i (by omega), cond_true]
    have rs : rb (fun j => can (lW l) (lS l) c t j s) (i + 1) = rb (fun j => can (lW l) (lS l) c t j s) i + (if can (lW l) (lS l) c t i s then 2 ^ i else 0) := rfl
    have bd := hk.2.2.2.2.2.2.2.2.2.2.2.2.2.2 (c i) (c s)
    have hs9 := hk.2.2.2.1.2
    unfold can at rs
    cases hw : lW l (8 * c i + c s) with
    | none =>
      rw [hw] at rs
      dsimp only at rs ⊢
      rw [if_pos rfl]
      rw [if_neg (by decide), Nat.add_zero] at rs
      unfold can at ih
      rw [rs] at ih
      unfold can
      exact ih
    | some v =>
      have bv := bd v (hP i (by omega)) (hP s (by omega)) hw
      have b2 : lS l * v ≤ 9 * 2304 := Nat.mul_le_mul hs9 bv
      rw [hw] at rs
      dsimp only at rs ⊢
      rw [if_neg (nI_neg9 (by omega))]
      by_cases h3 : lS l * v + t i ≤ t s
      · rw [if_neg (nI_nlt (by omega) (by omega)), nI_or]
        rw [if_pos (by simpa using h3)] at rs
        rw [or_pow (rb_lt _ i)]
        unfold can at ih
        rw [rs] at ih
        unfold can
        exact ih
      · rw [if_pos (nI_lt (by omega) (by omega))]
        rw [if_neg (by simpa using h3), Nat.add_zero] at rs
        unfold can at ih
        rw [rs] at ih
        unfold can
        exact ih
theorem stepTo_ok_39 {l : aL} {m : Nat → Nat → Int32} (hk : aLok l) (hc : LCl l m) {s : Nat} (hs : s < 8) {c t : Nat → Nat} (h0 : m 39 0 = nI s) (h1 : ∀ i, i < s → m 40 i = nI (c i) ∧ m 41 i = nI (t i)) (hP : ∀ i, i ≤ s → c i < lP l) (hT : ∀ i, i ≤ s → t i ≤ t s) (hB : t s < 2 ^ 20) (w : Nat) (ht : t s = if s = 0 then 0 else t (s - 1) + w + lF l (8 * c (s - 1) + c s) + (s - 1) * lT l) : F_Ru_stepTo_39_9 m (nI (c s)) (nI w) = some (q_w (q_w (q_w (q_w m 40 s (nI (c s))) 41 s (nI (t s))) 42 s (nI (rb (fun j => can (lW l) (lS l) c t j s) s))) 39 0 (nI (s + 1))) := by
  have hfu := qFU_big
  have h8 := hk.1.2
  have lp := stepLoop_39 hk hc (by omega) h0 h1 hP hT hB s 0 qFU (by omega) (by omega)
  have lp : FL_Ru_stepTo_39_9_78 qFU m (nI (c s)) (nI (t s)) 0 0 = _ := lp
  have g1 : nI s < 8 := (nI_lt hs (by omega) : nI s < nI 8)
  unfold F_Ru_stepTo_39_9
  rw [h0, if_pos g1]
  by_cases e : s = 0
  · subst e
    rw [if_pos rfl] at ht
    rw [ht] at lp ⊢
    have lp : FL_Ru_stepTo_39_9_78 qFU m (nI (c 0)) 0 0 0 = _ := lp
    rw [if_pos (by decide), lp, Option.bind_some, q_in_nI (j := 0) (by omega) (by omega)]
    rfl
  · obtain ⟨p, rfl⟩ : ∃ p, s = p + 1 := ⟨s - 1, by omega⟩
    rw [if_neg e, Nat.add_sub_cancel] at ht
    have g2 : ¬ nI (p + 1) ≤ 0 := nI_nle (by omega) (by omega)
    obtain ⟨a1, a2⟩ := h1 p (by omega)
    have cp := hP p (by omega)
    have cs := hP (p + 1) (by omega)
    rw [if_neg g2, nI_pred, q_in_nI (j := p) (by omega) (by omega), q_in_nI (j := p + 1) (by omega) (by omega), nI_clamp (n := p) (by omega), nI_clamp (n := p + 1) (by omega), cond_true, a1, a2, furrowBetween_ok (by omega) (by omega), Option.bind_some, cond_true, hc.2.2.2.2.2.2.1 _ (by omega), hc.2.2.2.2.1, pk_mul, nI_add, nI_add, nI_add, Nat.mul_comm (lT l) p, ← ht, lp, i_1, nI_add]
    rfl
theorem stepLoop_46 {l : aL} {m : Nat → Nat → Int32} (hk : aLok l) (hc : LCl l m) {s : Nat} (hs : s ≤ 8) {c t : Nat → Nat} (h0 : m 46 0 = nI s) (h1 : ∀ i, i < s → m 47 i = nI (c i) ∧ m 48 i = nI (t i)) (hP : ∀ i, i ≤ s → c i < lP l) (hT : ∀ i, i ≤ s → t i ≤ t s) (hB : t s < 2 ^ 20) : ∀ k i fu, i + k = s → k < fu → FL_Ru_stepTo_46_9_78 fu m (nI (c s)) (nI (t s)) (nI (rb (fun j => can (lW l) (lS l) c t j s) i)) (nI i) = some (nI (rb (fun j => can (lW l) (lS l) c t j s) s)) := by
  intro k
  induction k with
  | zero =>
    intro i fu e1 e2
    obtain ⟨fu, rfl⟩ : ∃ f, fu = f + 1 := ⟨fu - 1, by omega⟩
    obtain rfl : i = s := by omega
    rw [FL_Ru_stepTo_46_9_78, h0, if_pos (nI_le (by omega) (by omega))]
  | succ k ih =>
    intro i fu e1 e2
    obtain ⟨fu, rfl⟩ : ∃ f, fu = f + 1 := ⟨fu - 1, by omega⟩
    have ih := ih (i + 1) fu (by omega) (by omega)
    have g1 : ¬ nI s ≤ nI i := nI_ge (by omega) (by omega)
    obtain ⟨a1, a2⟩ := h1 i (by omega)
    have ti := hT i (by omega)
    rw [FL_Ru_stepTo_46_9_78, h0, if_neg g1, q_in_nI (j := i) (by omega) (by omega), nI_clamp (n := i) (by omega), cond_true, a1, a2, wayBetween_ok hk hc (hP i (by omega)) (hP s (by omega)), Option.bind_some, i_1, nI_add, pk_sub ti, ← i_1, nI_shl1 i (by omega), cond_true]
    have rs : rb (fun j => can (lW l) (lS l) c t j s) (i + 1) = rb (fun j => can (lW l) (lS l) c t j s) i + (if can (lW l) (lS l) c t i s then 2 ^ i else 0) := rfl
    have bd := hk.2.2.2.2.2.2.2.2.2.2.2.2.2.2 (c i) (c s)
    have hs9 := hk.2.2.2.1.2
    unfold can at rs
    cases hw : lW l (8 * c i + c s) with
    | none =>
      rw [hw] at rs
      dsimp only at rs ⊢
      rw [if_pos rfl]
      rw [if_neg (by decide), Nat.add_zero] at rs
      unfold can at ih
      rw [rs] at ih
      unfold can
      exact ih
    | some v =>
      have bv := bd v (hP i (by omega)) (hP s (by omega)) hw
      have b2 : lS l * v ≤ 9 * 2304 := Nat.mul_le_mul hs9 bv
      rw [hw] at rs
      dsimp only at rs ⊢
      rw [if_neg (nI_neg9 (by omega))]
      by_cases h3 : lS l * v + t i ≤ t s
      · rw [if_neg (nI_nlt (by omega) (by omega)), nI_or]
        rw [if_pos (by simpa using h3)] at rs
        rw [or_pow (rb_lt _ i)]
        unfold can at ih
        rw [rs] at ih
        unfold can
        exact ih
      · rw [if_pos (nI_lt (by omega) (by omega))]
        rw [if_neg (by simpa using h3), Nat.add_zero] at rs
        unfold can at ih
        rw [rs] at ih
        unfold can
        exact ih
theorem stepTo_ok_46 {l : aL} {m : Nat → Nat → Int32} (hk : aLok l) (hc : LCl l m) {s : Nat} (hs : s < 8) {c t : Nat → Nat} (h0 : m 46 0 = nI s) (h1 : ∀ i, i < s → m 47 i = nI (c i) ∧ m 48 i = nI (t i)) (hP : ∀ i, i ≤ s → c i < lP l) (hT : ∀ i, i ≤ s → t i ≤ t s) (hB : t s < 2 ^ 20) (w : Nat) (ht : t s = if s = 0 then 0 else t (s - 1) + w + lF l (8 * c (s - 1) + c s) + (s - 1) * lT l) : F_Ru_stepTo_46_9 m (nI (c s)) (nI w) = some (q_w (q_w (q_w (q_w m 47 s (nI (c s))) 48 s (nI (t s))) 49 s (nI (rb (fun j => can (lW l) (lS l) c t j s) s))) 46 0 (nI (s + 1))) := by
  have hfu := qFU_big
  have h8 := hk.1.2
  have lp := stepLoop_46 hk hc (by omega) h0 h1 hP hT hB s 0 qFU (by omega) (by omega)
  have lp : FL_Ru_stepTo_46_9_78 qFU m (nI (c s)) (nI (t s)) 0 0 = _ := lp
  have g1 : nI s < 8 := (nI_lt hs (by omega) : nI s < nI 8)
  unfold F_Ru_stepTo_46_9
  rw [h0, if_pos g1]
  by_cases e : s = 0
  · subst e
    rw [if_pos rfl] at ht
    rw [ht] at lp ⊢
    have lp : FL_Ru_stepTo_46_9_78 qFU m (nI (c 0)) 0 0 0 = _ := lp
    rw [if_pos (by decide), lp, Option.bind_some, q_in_nI (j := 0) (by omega) (by omega)]
    rfl
  · obtain ⟨p, rfl⟩ : ∃ p, s = p + 1 := ⟨s - 1, by omega⟩
    rw [if_neg e, Nat.add_sub_cancel] at ht
    have g2 : ¬ nI (p + 1) ≤ 0 := nI_nle (by omega) (by omega)
    obtain ⟨a1, a2⟩ := h1 p (by omega)
    have cp := hP p (by omega)
    have cs := hP (p + 1) (by omega)
    rw [if_neg g2, nI_pred, q_in_nI (j := p) (by omega) (by omega), q_in_nI (j := p + 1) (by omega) (by omega), nI_clamp (n := p) (by omega), nI_clamp (n := p + 1) (by omega), cond_true, a1, a2, furrowBetween_ok (by omega) (by omega), Option.bind_some, cond_true, hc.2.2.2.2.2.2.1 _ (by omega), hc.2.2.2.2.1, pk_mul, nI_add, nI_add, nI_add, Nat.mul_comm (lT l) p, ← ht, lp, i_1, nI_add]
    rfl
theorem follow_loop {l : aL} {x : aN} (hk : aLok l) (hx : aNok l x) : ∀ (k i fu : Nat) (m : Nat → Nat → Int32), LCl l m → (∀ j, j < 8 → m 20 j = nI (xW x j)) → i + k = lK l → k < fu → m 39 0 = nI i → (∀ j, j < i → m 40 j = nI (lC l j) ∧ m 41 j = nI (cm l x j) ∧ m 42 j = nI (rb (fun p => cg l x p j) j)) → ∃ m', FL_Ru_follow_39_9_20_7 fu m (nI i) = some m' ∧ rRun l x m' ∧ ∀ k, k < 39 ∨ 42 < k → m' k = m k := by
  intro k
  have h8 := hk.2.2.1
  induction k with
  | zero =>
    intro i fu m hc hw e1 e2 h0 hr
    obtain ⟨fu, rfl⟩ : ∃ f, fu = f + 1 := ⟨fu - 1, by omega⟩
    obtain rfl : i = lK l := by omega
    rw [FL_Ru_follow_39_9_20_7, hc.2.2.1, if_pos (nI_le (by omega) (by omega))]
    exact ⟨_, rfl, ⟨h0, hr⟩, fun _ _ => rfl⟩
  | succ k ih =>
    intro i fu m hc hw e1 e2 h0 hr
    obtain ⟨fu, rfl⟩ : ∃ f, fu = f + 1 := ⟨fu - 1, by omega⟩
    have g1 : ¬ nI (lK l) ≤ nI i := nI_ge (by omega) (by omega)
    have cb := cm_bd hk hx.2.2.1 i (by omega)
    have st := fun w hw => stepTo_ok_39 hk hc (s := i) (by omega) (c := lC l) (t := cm l x) h0 (fun j hj => ⟨(hr j hj).1, (hr j hj).2.1⟩) (fun j hj => hk.2.2.2.2.2.2.2.2.2.1 j (by omega)) (fun j hj => cm_le l x hj) (by omega) w hw
    rw [FL_Ru_follow_39_9_20_7, hc.2.2.1, if_neg g1, q_in_nI (j := i) (by omega) (by omega), nI_clamp (n := i) (by omega), cond_true, hc.2.2.2.2.2.2.2.2.2.2 i (by omega), i_1, nI_add]
    obtain ⟨m1, f1, f2, f3⟩ := ih (i + 1) fu (q_w (q_w (q_w (q_w m 40 i (nI (lC l i))) 41 i (nI (cm l x i))) 42 i (nI (rb (fun j => can (lW l) (lS l) (lC l) (cm l x) j i) i))) 39 0 (nI (i + 1))) (hc.of (by repeat (first | exact eqr.rf _ _ _ | refine eqr.w ?_ (by omega) | refine eqr.cw ?_ (by omega)))) (fun j hj => by rw [q_w_row _ _ _ (by omega), q_w_row _ _ _ (by omega), q_w_row _ _ _ (by omega), q_w_row _ _ _ (by omega)]; exact hw j hj) (by omega) (by omega) (q_w_same _ _ _ _) (fun j hj => by
      rw [q_w_row _ _ _ (show 40 ≠ 39 by omega), q_w_row _ _ _ (show 41 ≠ 39 by omega), q_w_row _ _ _ (show 42 ≠ 39 by omega), q_w_row _ _ _ (show 40 ≠ 42 by omega), q_w_row _ _ _ (show 41 ≠ 42 by omega), q_w_row _ _ _ (show 40 ≠ 41 by omega)]
      by_cases e : j = i
      · subst e
        rw [q_w_same, q_w_same, q_w_same]
        exact ⟨rfl, rfl, rfl⟩
      · rw [q_w_ne _ _ (by omega), q_w_ne _ _ (by omega), q_w_ne _ _ (by omega), q_w_ne _ _ (by omega), q_w_ne _ _ (by omega), q_w_ne _ _ (by omega)]
        exact hr j (by omega))
    have f4 : ∀ k, k < 39 ∨ 42 < k → m1 k = m k := fun k hk => by
      rw [f3 k hk, q_w_row _ _ _ (by omega), q_w_row _ _ _ (by omega), q_w_row _ _ _ (by omega), q_w_row _ _ _ (by omega)]
    by_cases e : i = 0
    · subst e
      have st : F_Ru_stepTo_39_9 m (nI (lC l 0)) 0 = _ := st 0 (by rw [if_pos rfl]; rfl)
      rw [if_pos (by decide), st, Option.bind_some]
      exact ⟨m1, f1, f2, f4⟩
    · obtain ⟨p, rfl⟩ : ∃ p, i = p + 1 := ⟨i - 1, by omega⟩
      have g2 : ¬ nI (p + 1) ≤ 0 := nI_nle (by omega) (by omega)
      rw [if_neg g2, ← i_1, nI_pred, q_in_nI (j := p) (by omega) (by omega), nI_clamp (n := p) (by omega), cond_true, hw p (by omega), st (xW x p) (by rw [if_neg e, Nat.add_sub_cancel]; rfl), Option.bind_some]
      exact ⟨m1, f1, f2, f4⟩
theorem follow_ok {l : aL} {x : aN} {m : Nat → Nat → Int32} (hk : aLok l) (hx : aNok l x) (hc : LCl l m) (hn : NCl 15 x m) : ∃ m', F_Ru_follow_39_9_20 m = some m' ∧ rRun l x m' ∧ ∀ k, k < 39 ∨ 42 < k → m' k = m k := by
  have hfu := qFU_big
  have h8 := hk.2.2.1
  obtain ⟨m1, f1, f2, f3⟩ := follow_loop hk hx (lK l) 0 qFU (q_w m 39 0 0) (hc.of (by repeat (first | exact eqr.rf _ _ _ | refine eqr.w ?_ (by omega) | refine eqr.cw ?_ (by omega)))) (fun j hj => by rw [q_w_row _ _ _ (by omega)]; exact hn.2.2.1 j hj) (by omega) (by omega) (q_w_same _ _ _ _) (fun j hj => absurd hj (by omega))
  refine ⟨m1, ?_, f2, fun k hk => by rw [f3 k hk, q_w_row _ _ _ (by omega)]⟩
  unfold F_Ru_follow_39_9_20
  rw [show FL_Ru_follow_39_9_20_7 qFU (q_w m 39 0 0) 0 = some m1 from f1]
  rfl
