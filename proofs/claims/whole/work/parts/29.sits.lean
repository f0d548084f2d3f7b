/-! sits -/
theorem agree_eq {l : aL} {x : aN} {m n : Nat → Nat → Int32} (hl : aLok l ∧ LCl l m ∧ LMo l n) (hx : aNok l x ∧ NCl 15 x m ∧ NMo 60 0 x n) {k q f t : Nat} (hk : k < xC x) (hq : q < lP l) (hf : f ≤ t) (ht : t ≤ 999) : ∃ w b : Int32, (b = 0 ∨ b = 1) ∧ F_La_wayBetween_9 m (m 17 k) (nI q) = some w ∧ F_No_agrees_15 m (nI k) w (nI f) (nI t) = some b ∧ F_Mo_areOne n (nI q) (nI f) (nI t) (n 60 (13 + k)) (n 60 (25 + k)) (n 60 (37 + k)) = some b := by
  have h12 := hx.1.1
  obtain ⟨o1, o2, o3, o4⟩ := hx.1.2.1 k hk
  obtain ⟨c1, c2, c3, c4⟩ := hx.2.1.2.1 k hk
  obtain ⟨n1, n2, n3, n4⟩ := hx.2.2.1.2.1 k hk
  rw [Nat.zero_add] at n1 n2 n3 n4
  have c2 : m 17 k = nI (xP x k) := c2
  have c3 : m 18 k = nI (xF x k) := c3
  have c4 : m 19 k = nI (xT x k) := c4
  have hp8 := hl.1.1.2
  have wsym := hl.1.2.2.2.2.2.2.2.2.2.2.2.2.1 (xP x k) q o2 hq
  have wb := hl.1.2.2.2.2.2.2.2.2.2.2.2.2.2.2 (xP x k) q
  have w0 := hl.1.2.2.2.2.2.2.2.2.2.2.1 q hq
  have wp := hl.1.2.2.2.2.2.2.2.2.2.2.2.1 (xP x k) q
  have hs9 := hl.1.2.2.2.1
  rw [c2, n2, n3, n4, wayBetween_ok hl.1 hl.2.1 o2 hq]
  unfold F_No_agrees_15 F_Mo_areOne
  rw [q_in_nI (j := k) (by omega) (by omega), nI_clamp (n := k) (by omega), c3, c4, wayOf_ok hl.1 hl.2.2 hq o2, ← wsym]
  simp only [cond_true, Option.bind_some]
  cases hw : lW l (8 * xP x k + q) with
  | none =>
    dsimp only
    refine ⟨Int32.ofInt (-9), ?_⟩
    have e1 : ¬ q = xP x k := fun z => by
      rw [z] at hw w0
      rw [w0] at hw
      exact absurd hw (by simp)
    have e2 : ¬ nI q = nI (xP x k) := fun z => e1 ((nI_eq (by omega) (by omega)).mp z)
    by_cases g1 : xT x k < f
    · have a1 : nI (xT x k) < nI f := nI_lt g1 (by omega)
      have a2 : ¬ nI f ≤ nI (xT x k) := nI_ge g1 (by omega)
      simp only [a1, a2, if_true, if_false]
      exact ⟨0, Or.inl rfl, trivial, rfl, rfl⟩
    · have a1 : ¬ nI (xT x k) < nI f := nI_nlt (by omega) (by omega)
      have a2 : nI f ≤ nI (xT x k) := nI_le (by omega) (by omega)
      by_cases g2 : t < xF x k
      · have a3 : nI t < nI (xF x k) := nI_lt g2 (by omega)
        simp only [a1, a2, a3, if_true, if_false]
        exact ⟨0, Or.inl rfl, trivial, rfl, rfl⟩
      · have a3 : ¬ nI t < nI (xF x k) := nI_nlt (by omega) (by omega)
        simp only [a1, a3, e2, if_false]
        exact ⟨0, Or.inl rfl, trivial, rfl, rfl⟩
  | some v =>
    dsimp only
    refine ⟨nI (lS l * v), ?_⟩
    have bv := wb v o2 hq hw
    have b2 : lS l * v ≤ 9 * 2304 := Nat.mul_le_mul hs9.2 bv
    have n9 : ¬ nI (lS l * v) = Int32.ofInt (-9) := nI_neg9 (by omega)
    by_cases g1 : xT x k < f
    · have a1 : nI (xT x k) < nI f := nI_lt g1 (by omega)
      have a2 : ¬ nI f ≤ nI (xT x k) := nI_ge g1 (by omega)
      simp only [a1, a2, n9, if_true, if_false]
      by_cases g3 : nI f - nI (xT x k) < nI (lS l * v)
      · simp only [g3, if_true]
        exact ⟨0, Or.inl rfl, trivial, rfl, rfl⟩
      · simp only [g3, if_false]
        exact ⟨1, Or.inr rfl, trivial, rfl, rfl⟩
    · have a1 : ¬ nI (xT x k) < nI f := nI_nlt (by omega) (by omega)
      have a2 : nI f ≤ nI (xT x k) := nI_le (by omega) (by omega)
      by_cases g2 : t < xF x k
      · have a3 : nI t < nI (xF x k) := nI_lt g2 (by omega)
        simp only [a1, a2, a3, n9, if_true, if_false]
        by_cases g3 : nI (xF x k) - nI t < nI (lS l * v)
        · simp only [g3, if_true]
          exact ⟨0, Or.inl rfl, trivial, rfl, rfl⟩
        · simp only [g3, if_false]
          exact ⟨1, Or.inr rfl, trivial, rfl, rfl⟩
      · have a3 : ¬ nI t < nI (xF x k) := nI_nlt (by omega) (by omega)
        simp only [a1, a3, if_false]
        by_cases e1 : q = xP x k
        · rw [e1] at hw w0
          rw [w0] at hw
          injection hw with hw
          subst hw
          rw [Nat.mul_zero, if_pos (show nI 0 = 0 from rfl), if_pos (by rw [e1])]
          exact ⟨1, Or.inr rfl, trivial, rfl, rfl⟩
        · have e2 : ¬ nI q = nI (xP x k) := fun z => e1 ((nI_eq (by omega) (by omega)).mp z)
          have vp := wp v o2 hq (fun z => e1 z.symm) hw
          have e3 : ¬ nI (lS l * v) = 0 := nI_ne0 (Nat.mul_pos (by omega) vp) (by omega)
          rw [if_neg e3, if_neg e2]
          exact ⟨0, Or.inl rfl, trivial, rfl, rfl⟩
theorem sits_zero {x : aN} {n : Nat → Nat → Int32} (h0 : n 60 0 = nI (xC x)) (h12 : xC x ≤ 12) (a b c d : Int32) : ∀ (k i fu : Nat), i + k = xC x → k < fu → FL_Mo_sits_47 fu n a b c d 0 (nI i) = some 0 := by
  intro k
  induction k with
  | zero =>
    intro i fu e1 e2
    obtain ⟨fu, rfl⟩ : ∃ f, fu = f + 1 := ⟨fu - 1, by omega⟩
    rw [FL_Mo_sits_47, h0, if_pos (nI_le (by omega) (by omega))]
  | succ k ih =>
    intro i fu e1 e2
    obtain ⟨fu, rfl⟩ : ∃ f, fu = f + 1 := ⟨fu - 1, by omega⟩
    have g1 : ¬ nI (xC x) ≤ nI i := nI_ge (by omega) (by omega)
    rw [FL_Mo_sits_47, h0, if_neg g1, if_pos rfl, i_1, nI_add]
    exact ih (i + 1) fu (by omega) (by omega)
theorem could_loop {l : aL} {x : aN} {m n : Nat → Nat → Int32} (hl : aLok l ∧ LCl l m ∧ LMo l n) (hx : aNok l x ∧ NCl 15 x m ∧ NMo 60 0 x n) {h q f t : Nat} (hh : h < lH l) (hq : q < lP l) (hf : f ≤ t) (ht : t ≤ 999) : ∀ (k i fu fv : Nat), i + k = xC x → k < fu → k < fv → (FL_AT_couldSit_3 fu m (nI h) (nI q) (nI f) (nI t) (nI i) = some (.inl 0) ∧ FL_Mo_sits_47 fv n (nI h) (nI q) (nI f) (nI t) 1 (nI i) = some 0) ∨ (FL_AT_couldSit_3 fu m (nI h) (nI q) (nI f) (nI t) (nI i) = some (.inr ()) ∧ FL_Mo_sits_47 fv n (nI h) (nI q) (nI f) (nI t) 1 (nI i) = some 1) := by
  intro k
  have h12 := hx.1.1
  have h5 := hl.1.2.1
  have e0 : n 60 0 = nI (xC x) := hx.2.2.1.1
  induction k with
  | zero =>
    intro i fu fv e1 e2 e3
    obtain ⟨fu, rfl⟩ : ∃ f, fu = f + 1 := ⟨fu - 1, by omega⟩
    obtain ⟨fv, rfl⟩ : ∃ f, fv = f + 1 := ⟨fv - 1, by omega⟩
    right
    rw [FL_AT_couldSit_3, FL_Mo_sits_47, e0, hx.2.1.1, if_pos (nI_le (by omega) (by omega)), if_pos (nI_le (by omega) (by omega))]
    exact ⟨rfl, rfl⟩
  | succ k ih =>
    intro i fu fv e1 e2 e3
    obtain ⟨fu, rfl⟩ : ∃ f, fu = f + 1 := ⟨fu - 1, by omega⟩
    obtain ⟨fv, rfl⟩ : ∃ f, fv = f + 1 := ⟨fv - 1, by omega⟩
    have g1 : ¬ nI (xC x) ≤ nI i := nI_ge (by omega) (by omega)
    obtain ⟨c1, c2, c3, c4⟩ := hx.2.1.2.1 i (by omega)
    obtain ⟨n1, n2, n3, n4⟩ := hx.2.2.1.2.1 i (by omega)
    rw [Nat.zero_add] at n1
    have c1 : m 16 i = nI (xH x i) := c1
    have o1 := (hx.1.2.1 i (by omega)).1
    have ih := ih (i + 1) fu fv (by omega) (by omega) (by omega)
    have zz := sits_zero e0 h12 (nI h) (nI q) (nI f) (nI t) k (i + 1) fv (by omega) (by omega)
    obtain ⟨w, b, hb, a1, a2, a3⟩ := agree_eq hl hx (k := i) (by omega) hq hf ht
    rw [FL_AT_couldSit_3, FL_Mo_sits_47, e0, hx.2.1.1, if_neg g1, if_neg g1, if_neg ne1, nI_1, i_1, i_13, i_25, i_37, nI_add, nI_add, nI_add, nI_add, q_in_nI (j := i) (by omega) (by omega), q_in_nI (j := 1 + i) (by omega) (by omega), q_in_nI (j := 13 + i) (by omega) (by omega), q_in_nI (j := 25 + i) (by omega) (by omega), q_in_nI (j := 37 + i) (by omega) (by omega), nI_clamp (n := i) (by omega), nI_clamp (n := 1 + i) (by omega), nI_clamp (n := 13 + i) (by omega), nI_clamp (n := 25 + i) (by omega), nI_clamp (n := 37 + i) (by omega), c1, n1, a1, a3]
    simp only [cond_true, Option.bind_some]
    rw [a2]
    by_cases g2 : xH x i = h
    · rw [g2, if_pos rfl, if_pos rfl]
      rcases hb with rfl | rfl
      · left
        exact ⟨rfl, zz⟩
      · exact ih
    · have g3 : ¬ nI (xH x i) = nI h := fun z => g2 ((nI_eq (by omega) (by omega)).mp z)
      rw [if_neg g3, if_neg g3]
      exact ih
theorem E_sits {m n : Nat → Nat → Int32} (h : rR m n) (a b c d : Int32) : ∃ r m' n', F_AT_sits m a b c d = some (r, m') ∧ F_Mo_sits n a b c d = some (r, n') ∧ rR m' n' := by
  have hR := h
  obtain ⟨l, x, hz, hs, y1, y2, len, tx, ht, hl, hx, hr, hh, hi1, hi2⟩ := h
  have hfu := qFU_big
  have h5 := hl.1.2.1
  have h8 := hl.1.1.2
  have h12 := hx.1.1
  unfold F_AT_sits F_Mo_sits
  rcases ix a (lH l) (by omega) with h | ⟨h, hh1, rfl⟩
  · rw [hasHog_bad hl.2.1.2.1 (by omega) h, isHog_bad hl.2.2.2.1 (by omega) h]
    exact ⟨_, _, _, rfl, rfl, hR⟩
  rw [hasHog_ok hl.2.1.2.1 (by omega) hh1, isHog_ok hl.2.2.2.1 (by omega) hh1, Option.bind_some, Option.bind_some, if_neg ne1, if_neg ne1]
  rcases ix b (lP l) (by omega) with h' | ⟨q, hq, rfl⟩
  · rw [hasPlace_bad hl.2.1.1 (by omega) h', isPlace_bad hl.2.2.1 (by omega) h']
    exact ⟨_, _, _, rfl, rfl, hR⟩
  rw [hasPlace_ok hl.2.1.1 (by omega) hq, isPlace_ok hl.2.2.1 (by omega) hq, Option.bind_some, Option.bind_some, if_neg ne1, if_neg ne1]
  by_cases c0 : c < 0
  · rw [if_pos c0]
    unfold F_Mo_in
    rw [if_pos c0]
    exact ⟨_, _, _, rfl, rfl, hR⟩
  rw [if_neg c0]
  obtain ⟨f, hf, rfl⟩ := nI_of c0
  by_cases d0 : d < nI f
  · rw [if_pos d0]
    have : F_Mo_in d (nI f) 999 = some 0 := by
      unfold F_Mo_in
      rw [if_pos d0]
    rw [this]
    refine ⟨_, _, _, rfl, ?_, hR⟩
    unfold F_Mo_in
    rw [if_neg c0]
    by_cases z : 999 < nI f
    · rw [if_pos z]
      rfl
    · rw [if_neg z]
      rfl
  rw [if_neg d0]
  have d1 : ¬ d < 0 := by
    rw [Int32.lt_iff_toInt_lt] at d0 ⊢
    rw [nI_toInt hf] at d0
    have : (0 : Int32).toInt = 0 := by decide
    omega
  obtain ⟨t, ht1, rfl⟩ := nI_of d1
  rw [nI_ltI ht1 hf] at d0
  by_cases d9 : t ≤ 999
  case neg =>
    have g2 : ¬ nI t ≤ 999 := (nI_ge (by omega) ht1 : ¬ nI t ≤ nI 999)
    have g3 : (999 : Int32) < nI t := (nI_lt (by omega) ht1 : nI 999 < nI t)
    have : F_Mo_in (nI t) (nI f) 999 = some 0 := by
      unfold F_Mo_in
      rw [if_neg (nI_nlt (by omega) ht1), if_pos g3]
    rw [if_neg g2, this]
    refine ⟨_, _, _, rfl, ?_, hR⟩
    unfold F_Mo_in
    rw [if_neg c0]
    by_cases z : 999 < nI f
    · rw [if_pos z]
      rfl
    · rw [if_neg z]
      rfl
  have g2 : nI t ≤ 999 := (nI_le d9 (by omega) : nI t ≤ nI 999)
  have r1 : F_Mo_in (nI f) 0 999 = some 1 := by
    unfold F_Mo_in
    rw [if_neg c0, if_neg (show ¬ (999 : Int32) < nI f from (nI_nlt (by omega) (by omega) : ¬ nI 999 < nI f))]
  have r2 : F_Mo_in (nI t) (nI f) 999 = some 1 := by
    unfold F_Mo_in
    rw [if_neg (nI_nlt (by omega) (by omega)), if_neg (show ¬ (999 : Int32) < nI t from (nI_nlt (by omega) (by omega) : ¬ nI 999 < nI t))]
  rw [if_pos g2, r1, r2, Option.bind_some, Option.bind_some, if_neg ne1, if_neg ne1]
  unfold F_AT_couldSit
  rcases could_loop hl hx hh1 hq (by omega : f ≤ t) d9 (xC x) 0 qFU qFU (by omega) (by omega) (by omega) with ⟨k1, k2⟩ | ⟨k1, k2⟩
  · rw [show FL_AT_couldSit_3 qFU m (nI h) (nI q) (nI f) (nI t) 0 = _ from k1, show FL_Mo_sits_47 qFU n (nI h) (nI q) (nI f) (nI t) 1 0 = _ from k2]
    exact ⟨_, _, _, rfl, rfl, hR⟩
  rw [show FL_AT_couldSit_3 qFU m (nI h) (nI q) (nI f) (nI t) 0 = _ from k1, show FL_Mo_sits_47 qFU n (nI h) (nI q) (nI f) (nI t) 1 0 = _ from k2, Option.bind_some, Option.bind_some, Option.bind_some, if_neg ne1, if_neg ne1, hx.2.1.1, show n 60 0 = nI (xC x) from hx.2.2.1.1]
  by_cases e : xC x = 12
  · rw [e, if_neg (by decide), if_pos (by decide)]
    exact ⟨_, _, _, rfl, rfl, hR⟩
  have g4 : nI (xC x) < 12 := (nI_lt (by omega) (by omega) : nI (xC x) < nI 12)
  have g5 : ¬ nI (xC x) = 12 := fun z => e ((nI_eq (b := 12) (by omega) (by omega)).mp z)
  obtain ⟨C, hC⟩ : ∃ C, C = xC x := ⟨_, rfl⟩
  obtain ⟨y, hy⟩ : ∃ y : aN, y = (C + 1, (fun k => if k = C then h else xH x k), (fun k => if k = C then q else xP x k), (fun k => if k = C then f else xF x k), (fun k => if k = C then t else xT x k), x.2.2.2.2.2.1, x.2.2.2.2.2.2) := ⟨_, rfl⟩
  have yC : xC y = C + 1 := by rw [hy]; rfl
  have yH : ∀ k, xH y k = if k = C then h else xH x k := by rw [hy]; exact fun _ => rfl
  have yP : ∀ k, xP y k = if k = C then q else xP x k := by rw [hy]; exact fun _ => rfl
  have yF : ∀ k, xF y k = if k = C then f else xF x k := by rw [hy]; exact fun _ => rfl
  have yT : ∀ k, xT y k = if k = C then t else xT x k := by rw [hy]; exact fun _ => rfl
  have yW : xW y = xW x := by rw [hy]; rfl
  have yS : xS y = xS x := by rw [hy]; rfl
  have yok : aNok l y := by
    refine ⟨by omega, fun k hk => ?_, by rw [yW]; exact hx.1.2.2.1, by rw [yS]; exact hx.1.2.2.2⟩
    rw [yC] at hk
    rw [yH, yP, yF, yT]
    by_cases e : k = C
    · rw [if_pos e, if_pos e, if_pos e, if_pos e]
      exact ⟨hh1, hq, by omega, d9⟩
    · rw [if_neg e, if_neg e, if_neg e, if_neg e]
      exact hx.1.2.1 k (by omega)
  obtain ⟨m1, hm1⟩ : ∃ m1, m1 = q_w (q_w (q_w (q_w (q_w m 16 C (nI h)) 17 C (nI q)) 18 C (nI f)) 19 C (nI t)) 15 1 (nI (C + 1)) := ⟨_, rfl⟩
  have fr1 : ∀ k, k < 15 ∨ 19 < k → m1 k = m k := fun k hk => by rw [hm1, q_w_row _ _ _ (by omega), q_w_row _ _ _ (by omega), q_w_row _ _ _ (by omega), q_w_row _ _ _ (by omega), q_w_row _ _ _ (by omega)]
  have add : F_No_addSits_15 m (nI h) (nI q) (nI f) (nI t) = some m1 := by
    unfold F_No_addSits_15
    rw [hx.2.1.1, if_pos g4, q_in_nI (j := xC x) (by omega) (by omega), nI_clamp (n := xC x) (by omega), i_1, nI_add, ← hC, hm1]
    rfl
  have c15 : NCl 15 y m1 := by
    obtain ⟨p1, p2, p3, p4⟩ := hx.2.1
    refine ⟨by rw [hm1, q_w_same, yC], fun k hk => ?_, fun k hk => ?_, fun k hk => ?_⟩
    · rw [yC] at hk
      rw [yH, yP, yF, yT, hm1, q_w_row _ _ _ (show 15 + 1 ≠ 15 by omega), q_w_row _ _ _ (show 15 + 2 ≠ 15 by omega), q_w_row _ _ _ (show 15 + 3 ≠ 15 by omega), q_w_row _ _ _ (show 15 + 4 ≠ 15 by omega), q_w_row _ _ _ (show 15 + 1 ≠ 19 by omega), q_w_row _ _ _ (show 15 + 1 ≠ 18 by omega), q_w_row _ _ _ (show 15 + 1 ≠ 17 by omega), q_w_row _ _ _ (show 15 + 2 ≠ 19 by omega), q_w_row _ _ _ (show 15 + 2 ≠ 18 by omega), q_w_row _ _ _ (show 15 + 3 ≠ 19 by omega)]
      by_cases e : k = C
      · rw [if_pos e, if_pos e, if_pos e, if_pos e, e]
        exact ⟨q_w_same _ _ _ _, q_w_same _ _ _ _, q_w_same _ _ _ _, q_w_same _ _ _ _⟩
      · rw [if_neg e, if_neg e, if_neg e, if_neg e, q_w_ne _ _ (show 15 + 1 ≠ 16 ∨ k ≠ C from Or.inr e), q_w_ne _ _ (show 15 + 2 ≠ 17 ∨ k ≠ C from Or.inr e), q_w_ne _ _ (show 15 + 2 ≠ 16 ∨ k ≠ C from Or.inr e), q_w_ne _ _ (show 15 + 3 ≠ 18 ∨ k ≠ C from Or.inr e), q_w_ne _ _ (show 15 + 3 ≠ 17 ∨ k ≠ C from Or.inr e), q_w_ne _ _ (show 15 + 3 ≠ 16 ∨ k ≠ C from Or.inr e), q_w_ne _ _ (show 15 + 4 ≠ 19 ∨ k ≠ C from Or.inr e), q_w_ne _ _ (show 15 + 4 ≠ 18 ∨ k ≠ C from Or.inr e), q_w_ne _ _ (show 15 + 4 ≠ 17 ∨ k ≠ C from Or.inr e), q_w_ne _ _ (show 15 + 4 ≠ 16 ∨ k ≠ C from Or.inr e)]
        exact p2 k (by omega)
    · rw [fr1 _ (by omega), yW]
      exact p3 k hk
    · rw [fr1 _ (by omega), yS]
      exact p4 k hk
  obtain ⟨m2, n2, hz', hs', f1, f2, f3, f4, f5, f6⟩ := note_ok (y := y) (pt := Int32.ofInt (-1)) (fw := 0) (hh.of (m' := m1) (n' := n) (fun k a b => fr1 _ (by omega)) rfl rfl) hx.1 hx.2.2.1 (Or.inl ⟨rfl, by omega, fun k hk => by rw [yH, yP, yF, yT, if_neg (by omega), if_neg (by omega), if_neg (by omega), if_neg (by omega)]; exact ⟨rfl, rfl, rfl, rfl⟩, fun k hk => by rw [yW]⟩)
  have nt : F_Hi_noteSits_36 m1 = some m2 := by
    unfold F_Hi_noteSits_36
    rw [f1]
    rfl
  have c20 : n2 60 0 = nI C := by
    rw [f5 _ (by omega) (by omega), hC]
    exact hx.2.2.1.1
  obtain ⟨n3, hn3⟩ : ∃ n3, n3 = q_w (q_w (q_w (q_w (q_w n2 60 (1 + C) (nI h)) 60 (13 + C) (nI q)) 60 (25 + C) (nI f)) 60 (37 + C) (nI t)) 60 0 (nI (C + 1)) := ⟨_, rfl⟩
  have fr3 : ∀ k, k ≠ 56 → k ≠ 60 → k ≠ 61 → n3 k = n k := fun k h1 h2 h3 => by rw [hn3, q_w_row _ _ _ (by omega), q_w_row _ _ _ (by omega), q_w_row _ _ _ (by omega), q_w_row _ _ _ (by omega), q_w_row _ _ _ (by omega), f5 _ h1 h3]
  have fr4 : ∀ k, k ≠ 60 → n3 k = n2 k := fun k h2 => by rw [hn3, q_w_row _ _ _ (by omega), q_w_row _ _ _ (by omega), q_w_row _ _ _ (by omega), q_w_row _ _ _ (by omega), q_w_row _ _ _ (by omega)]
  have o60 : ∀ j, j ≠ 0 → j ≠ 1 + C → j ≠ 13 + C → j ≠ 25 + C → j ≠ 37 + C → n3 60 j = n 60 j := fun j j0 j1 j2 j3 j4 => by rw [hn3, q_w_ne _ _ (Or.inr j0), q_w_ne _ _ (Or.inr j4), q_w_ne _ _ (Or.inr j3), q_w_ne _ _ (Or.inr j2), q_w_ne _ _ (Or.inr j1), f5 _ (by omega) (by omega)]
  have n15 : NMo 60 0 y n3 := by
    obtain ⟨⟨p1, p2, p3⟩, p4⟩ := hx.2.2
    refine ⟨⟨by rw [hn3, q_w_same, yC], fun k hk => ?_, fun k hk => ?_⟩, fun k hk => ?_⟩
    · rw [yC] at hk
      rw [yH, yP, yF, yT, Nat.zero_add, Nat.zero_add, Nat.zero_add, Nat.zero_add]
      by_cases e : k = C
      · rw [if_pos e, if_pos e, if_pos e, if_pos e, e, hn3]
        refine ⟨?_, ?_, ?_, ?_⟩
        · rw [q_w_ne _ _ (by omega), q_w_ne _ _ (by omega), q_w_ne _ _ (by omega), q_w_ne _ _ (by omega), q_w_same]
        · rw [q_w_ne _ _ (by omega), q_w_ne _ _ (by omega), q_w_ne _ _ (by omega), q_w_same]
        · rw [q_w_ne _ _ (by omega), q_w_ne _ _ (by omega), q_w_same]
        · rw [q_w_ne _ _ (by omega), q_w_same]
      · rw [if_neg e, if_neg e, if_neg e, if_neg e, o60 (1 + k) (by omega) (by omega) (by omega) (by omega) (by omega), o60 (13 + k) (by omega) (by omega) (by omega) (by omega) (by omega), o60 (25 + k) (by omega) (by omega) (by omega) (by omega) (by omega), o60 (37 + k) (by omega) (by omega) (by omega) (by omega) (by omega)]
        have := p2 k (by omega)
        rw [Nat.zero_add, Nat.zero_add, Nat.zero_add, Nat.zero_add] at this
        exact this
    · rw [yW, o60 _ (by omega) (by omega) (by omega) (by omega) (by omega)]
      exact p3 k hk
    · rw [yS, o60 _ (by omega) (by omega) (by omega) (by omega) (by omega)]
      exact p4 k hk
  have l15 : (q_w (q_w (q_w (q_w n2 60 (1 + C) (nI h)) 60 (13 + C) (nI q)) 60 (25 + C) (nI f)) 60 (37 + C) (nI t)) 60 0 = nI C := by
    rw [q_w_ne _ _ (by omega), q_w_ne _ _ (by omega), q_w_ne _ _ (by omega), q_w_ne _ _ (by omega), c20]
  rw [if_pos g4, if_neg g5, add, Option.bind_some, nt, f2, Option.bind_some, Option.bind_some, c20, i_1, i_12, i_24, i_36, nI_add, nI_add, nI_add, nI_add, show 1 + C + 12 = 13 + C by omega, show 1 + C + 24 = 25 + C by omega, show 1 + C + 36 = 37 + C by omega, q_in_nI (j := 1 + C) (by omega) (by omega), q_in_nI (j := 13 + C) (by omega) (by omega), q_in_nI (j := 25 + C) (by omega) (by omega), q_in_nI (j := 37 + C) (by omega) (by omega), nI_clamp (n := 1 + C) (by omega), nI_clamp (n := 13 + C) (by omega), nI_clamp (n := 25 + C) (by omega), nI_clamp (n := 37 + C) (by omega), l15, nI_add, ← hn3, f4 _ (by omega), c15.1, yC]
  have fr2 : ∀ k, k < 15 ∨ (19 < k ∧ k < 36) ∨ 38 < k → m2 k = m k := fun k hk => by rw [f4 _ (by omega), fr1 _ (by omega)]
  refine ⟨_, _, _, rfl, rfl, l, y, hz', hs', y1, y2, len, tx, ht.of (by rw [fr2 _ (by omega)]) (fr2 _ (by omega)) ?_ (fr3 _ (by omega) (by omega) (by omega)), ⟨hl.1, hl.2.1.of (fun k a b => fr2 _ (by omega)), hl.2.2.of (fr3 _ (by omega) (by omega) (by omega)) (fr3 _ (by omega) (by omega) (by omega))⟩, ⟨yok, c15.of (fun k a b => f4 _ (by omega)), n15⟩, ?_, f3.of (fun k a b => rfl) (by rw [fr4 _ (by omega)]) (fr4 _ (by omega)), hi1.of (fun k a b => fr2 _ (by omega)) (by rw [fr3 _ (by omega) (by omega) (by omega)]) (fr3 _ (by omega) (by omega) (by omega)), hi2.of (fun k a b => fr2 _ (by omega)) (by rw [fr3 _ (by omega) (by omega) (by omega)]) (fr3 _ (by omega) (by omega) (by omega))⟩
  · rw [fr4 _ (by omega), f6 _ (by omega)]
  · have e : cm l y = cm l x := by
      funext i
      induction i with
      | zero => rfl
      | succ i ih => unfold cm; rw [ih, yW]
    have hr2 := hr.of (m' := m2) (fun k a b => fr2 _ (by omega))
    unfold rRun cg at hr2 ⊢
    rw [e]
    exact hr2
