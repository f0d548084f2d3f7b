noncomputable def F_AT_type (m : (Nat → Nat → Int32)) (a1 : Int32) : Option (Int32 × (Nat → Nat → Int32)) :=
  if a1 < 0 then
    some ((Int32.ofInt (-1)), m)
  else
    if a1 ≤ 255 then
      if m 1 1 < 200 then
        cond (q_chr a1) (
          cond (q_chr a1) (cond (q_in (m 1 1) 200) (
            some ((m 1 1 + 1), (q_w (q_w m 2 (m 1 1).toNatClampNeg a1) 1 1 (m 1 1 + 1)))
           ) none) none
         ) none
      else
        some ((Int32.ofInt (-3)), m)
    else
      some ((Int32.ofInt (-1)), m)
theorem T_AT_type {Ln : Nat} {xs : Nat → Int32} {n : (Nat → Nat → Int32)} {lm : Nat → Int64} {d : Nat} (hd : 0 ≤ d) {m : (Nat → Nat → Int32)} {a1 : Int32} {rv : Int32} {m1 : (Nat → Nat → Int32)} (h : F_AT_type m a1 = some (rv, m1)) : q_Ev (qXT Ln xs) d 68 (0, [some (.ref 0), some (.int a1)], [], qMM m n lm) (some (.int rv), qMM m1 n lm) := by
  unfold F_AT_type at h
  refine q_ev_run 1 (S' := (1, [some (.ref 0), some (.int a1)], [.int a1], qMM m n lm)) rfl ?_
  by_cases hc1 : a1 < 0
  · rw [if_pos hc1] at h
    refine q_ev_brT hc1 (a := 11) (b := 4) rfl ?_
    refine q_ev_run 1 (S' := (12, [some (.ref 0), some (.int a1)], [.int (Int32.ofInt (-1))], qMM m n lm)) rfl ?_
    have h_z0 := Option.some.inj h
    obtain ⟨h_0, h_z1⟩ := Prod.mk.inj h_z0
    subst h_0
    subst h_z1
    exact q_ev_ret rfl rfl
  · rw [if_neg hc1] at h
    refine q_ev_brF hc1 (a := 11) (b := 4) rfl ?_
    refine q_ev_run 2 (S' := (8, [some (.ref 0), some (.int a1)], [.int 255, .int a1], qMM m n lm)) rfl ?_
    by_cases hc2 : a1 ≤ 255
    · rw [if_pos hc2] at h
      refine q_ev_brT hc2 (a := 13) (b := 11) rfl ?_
      refine q_ev_run 4 (S' := (23, [some (.ref 0), some (.int a1)], [.int 200, .int (m 1 1)], qMM m n lm)) rfl ?_
      by_cases hc3 : m 1 1 < 200
      · rw [if_pos hc3] at h
        refine q_ev_brT hc3 (a := 29) (b := 26) rfl ?_
        refine q_ev_run 7 (S' := (44, [some (.ref 0), some (.int a1)], [.int a1, .int (m 1 1), .ref 2], qMM m n lm)) rfl ?_
        obtain ⟨hb4, h⟩ := q_cd h
        refine q_ev_chk (b := q_chr a1) hb4 (S' := (45, [some (.ref 0), some (.int a1)], [.int a1, .int (m 1 1), .ref 2], qMM m n lm)) rfl ?_
        obtain ⟨hb5, h⟩ := q_cd h
        obtain ⟨hb6, h⟩ := q_cd h
        refine q_ev_chk2 (b := q_chr a1) (b2 := q_in (m 1 1) 200) hb5 hb6 (S' := (46, [some (.ref 0), some (.int a1)], [], qMM (q_w m 2 (m 1 1).toNatClampNeg a1) n lm)) rfl ?_
        refine q_ev_run 10 (S' := (66, [some (.ref 0), some (.int a1)], [.int (m 1 1 + 1)], qMM (q_w (q_w m 2 (m 1 1).toNatClampNeg a1) 1 1 (m 1 1 + 1)) n lm)) rfl ?_
        have h_z0 := Option.some.inj h
        obtain ⟨h_0, h_z1⟩ := Prod.mk.inj h_z0
        subst h_0
        subst h_z1
        exact q_ev_ret rfl rfl
      · rw [if_neg hc3] at h
        refine q_ev_brF hc3 (a := 29) (b := 26) rfl ?_
        refine q_ev_run 1 (S' := (28, [some (.ref 0), some (.int a1)], [.int (Int32.ofInt (-3))], qMM m n lm)) rfl ?_
        have h_z0 := Option.some.inj h
        obtain ⟨h_0, h_z1⟩ := Prod.mk.inj h_z0
        subst h_0
        subst h_z1
        exact q_ev_ret rfl rfl
    · rw [if_neg hc2] at h
      refine q_ev_brF hc2 (a := 13) (b := 11) rfl ?_
      refine q_ev_run 1 (S' := (12, [some (.ref 0), some (.int a1)], [.int (Int32.ofInt (-1))], qMM m n lm)) rfl ?_
      have h_z0 := Option.some.inj h
      obtain ⟨h_0, h_z1⟩ := Prod.mk.inj h_z0
      subst h_0
      subst h_z1
      exact q_ev_ret rfl rfl
noncomputable def F_Mo_in (a0 : Int32) (a1 : Int32) (a2 : Int32) : Option (Int32) :=
  if a0 < a1 then
    some (0)
  else
    if a2 < a0 then
      some (0)
    else
      some (1)
theorem T_Mo_in {Ln : Nat} {xs : Nat → Int32} {n : (Nat → Nat → Int32)} {m : (Nat → Nat → Int32)} {lm : Nat → Int64} {d : Nat} (hd : 0 ≤ d) {a0 : Int32} {a1 : Int32} {a2 : Int32} {rv : Int32} (h : F_Mo_in a0 a1 a2 = some rv) : q_Ev (qXT Ln xs) d 105 (0, [some (.int a0), some (.int a1), some (.int a2)], [], qMM m n lm) (some (.int rv), qMM m n lm) := by
  unfold F_Mo_in at h
  refine q_ev_run 2 (S' := (2, [some (.int a0), some (.int a1), some (.int a2)], [.int a1, .int a0], qMM m n lm)) rfl ?_
  by_cases hc1 : a0 < a1
  · rw [if_pos hc1] at h
    refine q_ev_brT hc1 (a := 14) (b := 5) rfl ?_
    refine q_ev_run 1 (S' := (15, [some (.int a0), some (.int a1), some (.int a2)], [.int 0], qMM m n lm)) rfl ?_
    have h_z0 := Option.some.inj h
    subst h_z0
    exact q_ev_ret rfl rfl
  · rw [if_neg hc1] at h
    refine q_ev_brF hc1 (a := 14) (b := 5) rfl ?_
    refine q_ev_run 2 (S' := (7, [some (.int a0), some (.int a1), some (.int a2)], [.int a2, .int a0], qMM m n lm)) rfl ?_
    by_cases hc2 : a2 < a0
    · rw [if_pos hc2] at h
      refine q_ev_brT hc2 (a := 14) (b := 10) rfl ?_
      refine q_ev_run 1 (S' := (15, [some (.int a0), some (.int a1), some (.int a2)], [.int 0], qMM m n lm)) rfl ?_
      have h_z0 := Option.some.inj h
      subst h_z0
      exact q_ev_ret rfl rfl
    · rw [if_neg hc2] at h
      refine q_ev_brF hc2 (a := 14) (b := 10) rfl ?_
      refine q_ev_run 2 (S' := (15, [some (.int a0), some (.int a1), some (.int a2)], [.int 1], qMM m n lm)) rfl ?_
      have h_z0 := Option.some.inj h
      subst h_z0
      exact q_ev_ret rfl rfl
noncomputable def F_Mo_type (m : (Nat → Nat → Int32)) (a1 : Int32) : Option (Int32 × (Nat → Nat → Int32)) :=
  Option.bind (F_Mo_in a1 0 255) (fun r1 =>
    if r1 = 0 then
      some ((Int32.ofInt (-1)), m)
    else
      if m 56 2 = 200 then
        some ((Int32.ofInt (-3)), m)
      else
        cond (q_in (m 56 2) 200) (some ((m 56 2 + 1), (q_w (q_w m 57 (m 56 2).toNatClampNeg a1) 56 2 (m 56 2 + 1)))) none)
theorem T_Mo_type {Ln : Nat} {xs : Nat → Int32} {n : (Nat → Nat → Int32)} {lm : Nat → Int64} {d : Nat} (hd : 1 ≤ d) {m : (Nat → Nat → Int32)} {a1 : Int32} {rv : Int32} {m1 : (Nat → Nat → Int32)} (h : F_Mo_type m a1 = some (rv, m1)) : q_Ev (qXT Ln xs) d 109 (0, [some (.ref 58), some (.int a1)], [], qMM n m lm) (some (.int rv), qMM n m1 lm) := by
  unfold F_Mo_type at h
  refine q_ev_run 3 (S' := (5, [some (.ref 58), some (.int a1)], [.int 255, .int 0, .int a1], qMM n m lm)) rfl ?_
  obtain ⟨r1, hf2, h⟩ := Option.bind_eq_some_iff.mp h
  try dsimp only at h
  refine q_ev_call (S' := (8, [some (.ref 58), some (.int a1)], [], qMM n m lm)) rfl (by omega) (T_Mo_in (by first | omega | decide) hf2) ?_
  refine q_ev_eq (S' := (8, [some (.ref 58), some (.int a1)], [.int r1], qMM n m lm)) rfl ?_
  by_cases hc3 : r1 = 0
  · rw [if_pos hc3] at h
    refine q_ev_brT hc3 (a := 11) (b := 13) rfl ?_
    refine q_ev_run 1 (S' := (12, [some (.ref 58), some (.int a1)], [.int (Int32.ofInt (-1))], qMM n m lm)) rfl ?_
    have h_z0 := Option.some.inj h
    obtain ⟨h_0, h_z1⟩ := Prod.mk.inj h_z0
    subst h_0
    subst h_z1
    exact q_ev_ret rfl rfl
  · rw [if_neg hc3] at h
    refine q_ev_brF hc3 (a := 11) (b := 13) rfl ?_
    refine q_ev_run 3 (S' := (20, [some (.ref 58), some (.int a1)], [.int 200, .int (m 56 2)], qMM n m lm)) rfl ?_
    by_cases hc4 : m 56 2 = 200
    · rw [if_pos hc4] at h
      refine q_ev_brT hc4 (a := 23) (b := 26) rfl ?_
      refine q_ev_run 1 (S' := (25, [some (.ref 58), some (.int a1)], [.int (Int32.ofInt (-3))], qMM n m lm)) rfl ?_
      have h_z0 := Option.some.inj h
      obtain ⟨h_0, h_z1⟩ := Prod.mk.inj h_z0
      subst h_0
      subst h_z1
      exact q_ev_ret rfl rfl
    · rw [if_neg hc4] at h
      refine q_ev_brF hc4 (a := 23) (b := 26) rfl ?_
      refine q_ev_run 5 (S' := (35, [some (.ref 58), some (.int a1)], [.int a1, .int (m 56 2), .ref 59], qMM n m lm)) rfl ?_
      obtain ⟨hb5, h⟩ := q_cd h
      refine q_ev_chk (b := q_in (m 56 2) 200) hb5 (S' := (36, [some (.ref 58), some (.int a1)], [], qMM n (q_w m 57 (m 56 2).toNatClampNeg a1) lm)) rfl ?_
      refine q_ev_run 8 (S' := (50, [some (.ref 58), some (.int a1)], [.int (m 56 2 + 1)], qMM n (q_w (q_w m 57 (m 56 2).toNatClampNeg a1) 56 2 (m 56 2 + 1)) lm)) rfl ?_
      have h_z0 := Option.some.inj h
      obtain ⟨h_0, h_z1⟩ := Prod.mk.inj h_z0
      subst h_0
      subst h_z1
      exact q_ev_ret rfl rfl
noncomputable def F_AT_clear (m : (Nat → Nat → Int32)) : Option (Int32 × (Nat → Nat → Int32)) :=
  some (m 1 1, (q_w m 1 1 0))
theorem T_AT_clear {Ln : Nat} {xs : Nat → Int32} {n : (Nat → Nat → Int32)} {lm : Nat → Int64} {d : Nat} (hd : 0 ≤ d) {m : (Nat → Nat → Int32)} {rv : Int32} {m1 : (Nat → Nat → Int32)} (h : F_AT_clear m = some (rv, m1)) : q_Ev (qXT Ln xs) d 69 (0, [some (.ref 0), none], [], qMM m n lm) (some (.int rv), qMM m1 n lm) := by
  unfold F_AT_clear at h
  refine q_ev_run 9 (S' := (17, [some (.ref 0), some (.int (m 1 1))], [.int (m 1 1)], qMM (q_w m 1 1 0) n lm)) rfl ?_
  have h_z0 := Option.some.inj h
  obtain ⟨h_0, h_z1⟩ := Prod.mk.inj h_z0
  subst h_0
  subst h_z1
  exact q_ev_ret rfl rfl
noncomputable def F_Mo_clear (m : (Nat → Nat → Int32)) : Option (Int32 × (Nat → Nat → Int32)) :=
  some (m 56 2, (q_w m 56 2 0))
theorem T_Mo_clear {Ln : Nat} {xs : Nat → Int32} {n : (Nat → Nat → Int32)} {lm : Nat → Int64} {d : Nat} (hd : 0 ≤ d) {m : (Nat → Nat → Int32)} {rv : Int32} {m1 : (Nat → Nat → Int32)} (h : F_Mo_clear m = some (rv, m1)) : q_Ev (qXT Ln xs) d 110 (0, [some (.ref 58), none], [], qMM n m lm) (some (.int rv), qMM n m1 lm) := by
  unfold F_Mo_clear at h
  refine q_ev_run 7 (S' := (11, [some (.ref 58), some (.int (m 56 2))], [.int (m 56 2)], qMM n (q_w m 56 2 0) lm)) rfl ?_
  have h_z0 := Option.some.inj h
  obtain ⟨h_0, h_z1⟩ := Prod.mk.inj h_z0
  subst h_0
  subst h_z1
  exact q_ev_ret rfl rfl
noncomputable def FL_Ar_fill_4_5 : Nat → (Nat → Nat → Int32) → Int32 → Int32 → Int32 → Option ((Nat → Nat → Int32))
  | 0, _, _, _, _ => none
  | fu + 1, m, x1, x2, x3 =>
    if x3 ≤ x2 then
      some (m)
    else
      cond (q_in x2 64) (FL_Ar_fill_4_5 fu (q_w m 4 x2.toNatClampNeg x1) x1 (x2 + 1) x3) none
theorem TL_Ar_fill_4_5 {Ln : Nat} {xs : Nat → Int32} {n : (Nat → Nat → Int32)} {lm : Nat → Int64} {d : Nat} (hd : 0 ≤ d) {r : Option Value × qM} : ∀ (fu : Nat) (m : (Nat → Nat → Int32)) (x1 : Int32) (x2 : Int32) (x3 : Int32)  (m1 : (Nat → Nat → Int32)), FL_Ar_fill_4_5 fu m x1 x2 x3 = some m1 → (∀ (u2 : Option Value), q_Ev (qXT Ln xs) d 170 (20, [some (.ref 4), some (.int x1), u2, some (.int x3)], [], qMM m1 n lm) r) → q_Ev (qXT Ln xs) d 170 (5, [some (.ref 4), some (.int x1), some (.int x2), some (.int x3)], [], qMM m n lm) r := by
  intro fu
  induction fu with
  | zero => intro m x1 x2 x3 m1 h hk; cases h
  | succ fu ih =>
    intro m x1 x2 x3 m1 h hk
    rw [FL_Ar_fill_4_5] at h
    refine q_ev_run 2 (S' := (7, [some (.ref 4), some (.int x1), some (.int x2), some (.int x3)], [.int x3, .int x2], qMM m n lm)) rfl ?_
    by_cases hc1 : x3 ≤ x2
    · rw [if_pos hc1] at h
      refine q_ev_brT hc1 (a := 20) (b := 10) rfl ?_
      have h_z0 := Option.some.inj h
      subst h_z0
      exact hk (some (.int x2))
    · rw [if_neg hc1] at h
      refine q_ev_brF hc1 (a := 20) (b := 10) rfl ?_
      refine q_ev_run 3 (S' := (13, [some (.ref 4), some (.int x1), some (.int x2), some (.int x3)], [.int x1, .int x2, .ref 4], qMM m n lm)) rfl ?_
      obtain ⟨hb2, h⟩ := q_cd h
      refine q_ev_chk (b := q_in x2 64) hb2 (S' := (14, [some (.ref 4), some (.int x1), some (.int x2), some (.int x3)], [], qMM (q_w m 4 x2.toNatClampNeg x1) n lm)) rfl ?_
      refine q_ev_run 2 (S' := (5, [some (.ref 4), some (.int x1), some (.int (x2 + 1)), some (.int x3)], [], qMM (q_w m 4 x2.toNatClampNeg x1) n lm)) rfl ?_
      exact ih (q_w m 4 x2.toNatClampNeg x1) x1 (x2 + 1) x3 _ h hk
noncomputable def F_Ar_fill_4 (m : (Nat → Nat → Int32)) (a1 : Int32) : Option ((Nat → Nat → Int32)) :=
  Option.bind (FL_Ar_fill_4_5 qFU m a1 0 64) (fun m2 =>
    some (m2))
theorem T_Ar_fill_4 {Ln : Nat} {xs : Nat → Int32} {n : (Nat → Nat → Int32)} {lm : Nat → Int64} {d : Nat} (hd : 0 ≤ d) {m : (Nat → Nat → Int32)} {a1 : Int32} {m1 : (Nat → Nat → Int32)} (h : F_Ar_fill_4 m a1 = some m1) : q_Ev (qXT Ln xs) d 170 (0, [some (.ref 4), some (.int a1), none, none], [], qMM m n lm) (none, qMM m1 n lm) := by
  unfold F_Ar_fill_4 at h
  refine q_ev_run 5 (S' := (5, [some (.ref 4), some (.int a1), some (.int 0), some (.int 64)], [], qMM m n lm)) rfl ?_
  obtain ⟨m2, hl3, h⟩ := Option.bind_eq_some_iff.mp h
  try dsimp only at h
  refine TL_Ar_fill_4_5 (by first | omega | decide) _ m a1 0 64 _ hl3 (fun w1 => ?_)
  have h_z0 := Option.some.inj h
  subst h_z0
  exact q_ev_ret rfl rfl
noncomputable def FL_Ar_fill_6_5 : Nat → (Nat → Nat → Int32) → Int32 → Int32 → Int32 → Option ((Nat → Nat → Int32))
  | 0, _, _, _, _ => none
  | fu + 1, m, x1, x2, x3 =>
    if x3 ≤ x2 then
      some (m)
    else
      cond (q_in x2 8) (FL_Ar_fill_6_5 fu (q_w m 6 x2.toNatClampNeg x1) x1 (x2 + 1) x3) none
theorem TL_Ar_fill_6_5 {Ln : Nat} {xs : Nat → Int32} {n : (Nat → Nat → Int32)} {lm : Nat → Int64} {d : Nat} (hd : 0 ≤ d) {r : Option Value × qM} : ∀ (fu : Nat) (m : (Nat → Nat → Int32)) (x1 : Int32) (x2 : Int32) (x3 : Int32)  (m1 : (Nat → Nat → Int32)), FL_Ar_fill_6_5 fu m x1 x2 x3 = some m1 → (∀ (u2 : Option Value), q_Ev (qXT Ln xs) d 170 (20, [some (.ref 6), some (.int x1), u2, some (.int x3)], [], qMM m1 n lm) r) → q_Ev (qXT Ln xs) d 170 (5, [some (.ref 6), some (.int x1), some (.int x2), some (.int x3)], [], qMM m n lm) r := by
  intro fu
  induction fu with
  | zero => intro m x1 x2 x3 m1 h hk; cases h
  | succ fu ih =>
    intro m x1 x2 x3 m1 h hk
    rw [FL_Ar_fill_6_5] at h
    refine q_ev_run 2 (S' := (7, [some (.ref 6), some (.int x1), some (.int x2), some (.int x3)], [.int x3, .int x2], qMM m n lm)) rfl ?_
    by_cases hc1 : x3 ≤ x2
    · rw [if_pos hc1] at h
      refine q_ev_brT hc1 (a := 20) (b := 10) rfl ?_
      have h_z0 := Option.some.inj h
      subst h_z0
      exact hk (some (.int x2))
    · rw [if_neg hc1] at h
      refine q_ev_brF hc1 (a := 20) (b := 10) rfl ?_
      refine q_ev_run 3 (S' := (13, [some (.ref 6), some (.int x1), some (.int x2), some (.int x3)], [.int x1, .int x2, .ref 6], qMM m n lm)) rfl ?_
      obtain ⟨hb2, h⟩ := q_cd h
      refine q_ev_chk (b := q_in x2 8) hb2 (S' := (14, [some (.ref 6), some (.int x1), some (.int x2), some (.int x3)], [], qMM (q_w m 6 x2.toNatClampNeg x1) n lm)) rfl ?_
      refine q_ev_run 2 (S' := (5, [some (.ref 6), some (.int x1), some (.int (x2 + 1)), some (.int x3)], [], qMM (q_w m 6 x2.toNatClampNeg x1) n lm)) rfl ?_
      exact ih (q_w m 6 x2.toNatClampNeg x1) x1 (x2 + 1) x3 _ h hk
noncomputable def F_Ar_fill_6 (m : (Nat → Nat → Int32)) (a1 : Int32) : Option ((Nat → Nat → Int32)) :=
  Option.bind (FL_Ar_fill_6_5 qFU m a1 0 8) (fun m2 =>
    some (m2))
theorem T_Ar_fill_6 {Ln : Nat} {xs : Nat → Int32} {n : (Nat → Nat → Int32)} {lm : Nat → Int64} {d : Nat} (hd : 0 ≤ d) {m : (Nat → Nat → Int32)} {a1 : Int32} {m1 : (Nat → Nat → Int32)} (h : F_Ar_fill_6 m a1 = some m1) : q_Ev (qXT Ln xs) d 170 (0, [some (.ref 6), some (.int a1), none, none], [], qMM m n lm) (none, qMM m1 n lm) := by
  unfold F_Ar_fill_6 at h
  refine q_ev_run 5 (S' := (5, [some (.ref 6), some (.int a1), some (.int 0), some (.int 8)], [], qMM m n lm)) rfl ?_
  obtain ⟨m2, hl3, h⟩ := Option.bind_eq_some_iff.mp h
  try dsimp only at h
  refine TL_Ar_fill_6_5 (by first | omega | decide) _ m a1 0 8 _ hl3 (fun w1 => ?_)
  have h_z0 := Option.some.inj h
  subst h_z0
  exact q_ev_ret rfl rfl
noncomputable def F_La_wipe_3 (m : (Nat → Nat → Int32)) : Option ((Nat → Nat → Int32)) :=
  Option.bind (F_Ar_fill_4 (q_w (q_w (q_w (q_w (q_w (q_w m 3 0 4) 3 1 0) 3 2 0) 3 3 3) 3 4 0) 3 5 0) 0) (fun m1 =>
    Option.bind (F_Ar_fill_6 m1 0) (fun m3 =>
      some (m3)))
theorem T_La_wipe_3 {Ln : Nat} {xs : Nat → Int32} {n : (Nat → Nat → Int32)} {lm : Nat → Int64} {d : Nat} (hd : 1 ≤ d) {m : (Nat → Nat → Int32)} {m1 : (Nat → Nat → Int32)} (h : F_La_wipe_3 m = some m1) : q_Ev (qXT Ln xs) d 13 (0, [some (.ref 3)], [], qMM m n lm) (none, qMM m1 n lm) := by
  unfold F_La_wipe_3 at h
  refine q_ev_run 21 (S' := (35, [some (.ref 3)], [.int 0, .ref 4], qMM (q_w (q_w (q_w (q_w (q_w (q_w m 3 0 4) 3 1 0) 3 2 0) 3 3 3) 3 4 0) 3 5 0) n lm)) rfl ?_
  obtain ⟨m1, hf2, h⟩ := Option.bind_eq_some_iff.mp h
  try dsimp only at h
  refine q_ev_call (S' := (38, [some (.ref 3)], [], qMM (q_w (q_w (q_w (q_w (q_w (q_w m 3 0 4) 3 1 0) 3 2 0) 3 3 3) 3 4 0) 3 5 0) n lm)) rfl (by omega) (T_Ar_fill_4 (by first | omega | decide) hf2) ?_
  refine q_ev_eq (S' := (38, [some (.ref 3)], [], qMM m1 n lm)) rfl ?_
  refine q_ev_run 3 (S' := (43, [some (.ref 3)], [.int 0, .ref 6], qMM m1 n lm)) rfl ?_
  obtain ⟨m3, hf4, h⟩ := Option.bind_eq_some_iff.mp h
  try dsimp only at h
  refine q_ev_call (S' := (46, [some (.ref 3)], [], qMM m1 n lm)) rfl (by omega) (T_Ar_fill_6 (by first | omega | decide) hf4) ?_
  refine q_ev_eq (S' := (46, [some (.ref 3)], [], qMM m3 n lm)) rfl ?_
  have h_z0 := Option.some.inj h
  subst h_z0
  exact q_ev_ret rfl rfl
noncomputable def F_Re_isFigure_1 (m : (Nat → Nat → Int32)) (a1 : Int32) : Option (Int32) :=
  cond (q_in a1 200) (
    if m 2 a1.toNatClampNeg < 48 then
      some (0)
    else
      cond (q_in a1 200) (
        if 57 < m 2 a1.toNatClampNeg then
          some (0)
        else
          some (1)
       ) none
   ) none
theorem T_Re_isFigure_1 {Ln : Nat} {xs : Nat → Int32} {n : (Nat → Nat → Int32)} {lm : Nat → Int64} {d : Nat} (hd : 0 ≤ d) {m : (Nat → Nat → Int32)} {a1 : Int32} {rv : Int32} (h : F_Re_isFigure_1 m a1 = some rv) : q_Ev (qXT Ln xs) d 38 (0, [some (.ref 1), some (.int a1)], [], qMM m n lm) (some (.int rv), qMM m n lm) := by
  unfold F_Re_isFigure_1 at h
  refine q_ev_run 3 (S' := (5, [some (.ref 1), some (.int a1)], [.int a1, .ref 2], qMM m n lm)) rfl ?_
  obtain ⟨hb1, h⟩ := q_cd h
  refine q_ev_chk (b := q_in a1 200) hb1 (S' := (6, [some (.ref 1), some (.int a1)], [.int (m 2 a1.toNatClampNeg)], qMM m n lm)) rfl ?_
  refine q_ev_run 1 (S' := (8, [some (.ref 1), some (.int a1)], [.int 48, .int (m 2 a1.toNatClampNeg)], qMM m n lm)) rfl ?_
  by_cases hc2 : m 2 a1.toNatClampNeg < 48
  · rw [if_pos hc2] at h
    refine q_ev_brT hc2 (a := 26) (b := 11) rfl ?_
    refine q_ev_run 1 (S' := (27, [some (.ref 1), some (.int a1)], [.int 0], qMM m n lm)) rfl ?_
    have h_z0 := Option.some.inj h
    subst h_z0
    exact q_ev_ret rfl rfl
  · rw [if_neg hc2] at h
    refine q_ev_brF hc2 (a := 26) (b := 11) rfl ?_
    refine q_ev_run 3 (S' := (16, [some (.ref 1), some (.int a1)], [.int a1, .ref 2], qMM m n lm)) rfl ?_
    obtain ⟨hb3, h⟩ := q_cd h
    refine q_ev_chk (b := q_in a1 200) hb3 (S' := (17, [some (.ref 1), some (.int a1)], [.int (m 2 a1.toNatClampNeg)], qMM m n lm)) rfl ?_
    refine q_ev_run 1 (S' := (19, [some (.ref 1), some (.int a1)], [.int 57, .int (m 2 a1.toNatClampNeg)], qMM m n lm)) rfl ?_
    by_cases hc4 : 57 < m 2 a1.toNatClampNeg
    · rw [if_pos hc4] at h
      refine q_ev_brT hc4 (a := 26) (b := 22) rfl ?_
      refine q_ev_run 1 (S' := (27, [some (.ref 1), some (.int a1)], [.int 0], qMM m n lm)) rfl ?_
      have h_z0 := Option.some.inj h
      subst h_z0
      exact q_ev_ret rfl rfl
    · rw [if_neg hc4] at h
      refine q_ev_brF hc4 (a := 26) (b := 22) rfl ?_
      refine q_ev_run 2 (S' := (27, [some (.ref 1), some (.int a1)], [.int 1], qMM m n lm)) rfl ?_
      have h_z0 := Option.some.inj h
      subst h_z0
      exact q_ev_ret rfl rfl
noncomputable def FL_Re_lastOfFigures_1_2 : Nat → (Nat → Nat → Int32) → Int32 → Int32 → Option (Int32)
  | 0, _, _, _ => none
  | fu + 1, m, x1, x2 =>
    if m 1 1 ≤ x2 then
      some (x2)
    else
      Option.bind (F_Re_isFigure_1 m x2) (fun r2 =>
        if r2 = 0 then
          some (x2)
        else
          FL_Re_lastOfFigures_1_2 fu m x1 (x2 + 1))
theorem TL_Re_lastOfFigures_1_2 {Ln : Nat} {xs : Nat → Int32} {n : (Nat → Nat → Int32)} {lm : Nat → Int64} {d : Nat} (hd : 1 ≤ d) {r : Option Value × qM} : ∀ (fu : Nat) (m : (Nat → Nat → Int32)) (x1 : Int32) (x2 : Int32)  (y2 : Int32), FL_Re_lastOfFigures_1_2 fu m x1 x2 = some y2 → (q_Ev (qXT Ln xs) d 39 (24, [some (.ref 1), some (.int x1), some (.int y2)], [], qMM m n lm) r) → q_Ev (qXT Ln xs) d 39 (2, [some (.ref 1), some (.int x1), some (.int x2)], [], qMM m n lm) r := by
  intro fu
  induction fu with
  | zero => intro m x1 x2 y2 h hk; cases h
  | succ fu ih =>
    intro m x1 x2 y2 h hk
    rw [FL_Re_lastOfFigures_1_2] at h
    refine q_ev_run 3 (S' := (7, [some (.ref 1), some (.int x1), some (.int x2)], [.int (m 1 1), .int x2], qMM m n lm)) rfl ?_
    by_cases hc1 : m 1 1 ≤ x2
    · rw [if_pos hc1] at h
      refine q_ev_brT hc1 (a := 24) (b := 10) rfl ?_
      have h_z0 := Option.some.inj h
      subst h_z0
      exact hk 
    · rw [if_neg hc1] at h
      refine q_ev_brF hc1 (a := 24) (b := 10) rfl ?_
      refine q_ev_run 2 (S' := (12, [some (.ref 1), some (.int x1), some (.int x2)], [.int x2, .ref 1], qMM m n lm)) rfl ?_
      obtain ⟨r2, hf3, h⟩ := Option.bind_eq_some_iff.mp h
      try dsimp only at h
      refine q_ev_call (S' := (15, [some (.ref 1), some (.int x1), some (.int x2)], [], qMM m n lm)) rfl (by omega) (T_Re_isFigure_1 (by first | omega | decide) hf3) ?_
      refine q_ev_eq (S' := (15, [some (.ref 1), some (.int x1), some (.int x2)], [.int r2], qMM m n lm)) rfl ?_
      by_cases hc4 : r2 = 0
      · rw [if_pos hc4] at h
        refine q_ev_brT hc4 (a := 24) (b := 18) rfl ?_
        have h_z0 := Option.some.inj h
        subst h_z0
        exact hk 
      · rw [if_neg hc4] at h
        refine q_ev_brF hc4 (a := 24) (b := 18) rfl ?_
        refine q_ev_run 2 (S' := (2, [some (.ref 1), some (.int x1), some (.int (x2 + 1))], [], qMM m n lm)) rfl ?_
        exact ih m x1 (x2 + 1) _ h hk
noncomputable def F_Re_lastOfFigures_1 (m : (Nat → Nat → Int32)) (a1 : Int32) : Option (Int32) :=
  Option.bind (FL_Re_lastOfFigures_1_2 qFU m a1 a1) (fun y1 =>
    some ((if a1 < (y1 - 1) then (y1 - 1) else a1)))
theorem T_Re_lastOfFigures_1 {Ln : Nat} {xs : Nat → Int32} {n : (Nat → Nat → Int32)} {lm : Nat → Int64} {d : Nat} (hd : 1 ≤ d) {m : (Nat → Nat → Int32)} {a1 : Int32} {rv : Int32} (h : F_Re_lastOfFigures_1 m a1 = some rv) : q_Ev (qXT Ln xs) d 39 (0, [some (.ref 1), some (.int a1), none], [], qMM m n lm) (some (.int rv), qMM m n lm) := by
  unfold F_Re_lastOfFigures_1 at h
  refine q_ev_run 2 (S' := (2, [some (.ref 1), some (.int a1), some (.int a1)], [], qMM m n lm)) rfl ?_
  obtain ⟨y1, hl2, h⟩ := Option.bind_eq_some_iff.mp h
  try dsimp only at h
  refine TL_Re_lastOfFigures_1_2 (by first | omega | decide) _ m a1 a1 _ hl2 ?_
  refine q_ev_run 5 (S' := (31, [some (.ref 1), some (.int a1), some (.int y1)], [.int (if a1 < (y1 - 1) then (y1 - 1) else a1)], qMM m n lm)) rfl ?_
  have h_z0 := Option.some.inj h
  subst h_z0
  exact q_ev_ret rfl rfl
noncomputable def F_Re_tokenOfFigures_1 (m : (Nat → Nat → Int32)) (a1 : Int32) (a2 : Int32) : Option (Int32) :=
  cond (q_in a2 200) (
    if a1 = a2 then
      some ((258 + (m 2 a2.toNatClampNeg - 48)))
    else
      if (a2 - a1) < 2 then
        cond (q_in a1 200) (
          if (m 2 a1.toNatClampNeg - 48) = 0 then
            some (257)
          else
            some (((258 + (10 * (m 2 a1.toNatClampNeg - 48))) + (m 2 a2.toNatClampNeg - 48)))
         ) none
      else
        cond (q_in a1 200) (some (257)) none
   ) none
theorem T_Re_tokenOfFigures_1 {Ln : Nat} {xs : Nat → Int32} {n : (Nat → Nat → Int32)} {lm : Nat → Int64} {d : Nat} (hd : 0 ≤ d) {m : (Nat → Nat → Int32)} {a1 : Int32} {a2 : Int32} {rv : Int32} (h : F_Re_tokenOfFigures_1 m a1 a2 = some rv) : q_Ev (qXT Ln xs) d 40 (0, [some (.ref 1), some (.int a1), some (.int a2), none, none, none], [], qMM m n lm) (some (.int rv), qMM m n lm) := by
  unfold F_Re_tokenOfFigures_1 at h
  refine q_ev_run 3 (S' := (5, [some (.ref 1), some (.int a1), some (.int a2), none, none, none], [.int a2, .ref 2], qMM m n lm)) rfl ?_
  obtain ⟨hb1, h⟩ := q_cd h
  refine q_ev_chk (b := q_in a2 200) hb1 (S' := (6, [some (.ref 1), some (.int a1), some (.int a2), none, none, none], [.int (m 2 a2.toNatClampNeg)], qMM m n lm)) rfl ?_
  refine q_ev_run 5 (S' := (12, [some (.ref 1), some (.int a1), some (.int a2), some (.int (m 2 a2.toNatClampNeg - 48)), none, none], [.int a2, .int a1], qMM m n lm)) rfl ?_
  by_cases hc2 : a1 = a2
  · rw [if_pos hc2] at h
    refine q_ev_brT hc2 (a := 15) (b := 21) rfl ?_
    refine q_ev_run 3 (S' := (20, [some (.ref 1), some (.int a1), some (.int a2), some (.int (m 2 a2.toNatClampNeg - 48)), none, none], [.int (258 + (m 2 a2.toNatClampNeg - 48))], qMM m n lm)) rfl ?_
    have h_z0 := Option.some.inj h
    subst h_z0
    exact q_ev_ret rfl rfl
  · rw [if_neg hc2] at h
    refine q_ev_brF hc2 (a := 15) (b := 21) rfl ?_
    refine q_ev_run 4 (S' := (25, [some (.ref 1), some (.int a1), some (.int a2), some (.int (m 2 a2.toNatClampNeg - 48)), none, none], [.int 2, .int (a2 - a1)], qMM m n lm)) rfl ?_
    by_cases hc3 : (a2 - a1) < 2
    · rw [if_pos hc3] at h
      refine q_ev_brT hc3 (a := 32) (b := 28) rfl ?_
      refine q_ev_run 5 (S' := (40, [some (.ref 1), some (.int a1), some (.int a2), some (.int (m 2 a2.toNatClampNeg - 48)), some (.int 0), none], [.int a1, .ref 2], qMM m n lm)) rfl ?_
      obtain ⟨hb4, h⟩ := q_cd h
      refine q_ev_chk (b := q_in a1 200) hb4 (S' := (41, [some (.ref 1), some (.int a1), some (.int a2), some (.int (m 2 a2.toNatClampNeg - 48)), some (.int 0), none], [.int (m 2 a1.toNatClampNeg)], qMM m n lm)) rfl ?_
      refine q_ev_run 6 (S' := (53, [some (.ref 1), some (.int a1), some (.int a2), some (.int (m 2 a2.toNatClampNeg - 48)), some (.int 0), some (.int (m 2 a1.toNatClampNeg - 48))], [.int (m 2 a1.toNatClampNeg - 48)], qMM m n lm)) rfl ?_
      by_cases hc5 : (m 2 a1.toNatClampNeg - 48) = 0
      · rw [if_pos hc5] at h
        refine q_ev_brT hc5 (a := 56) (b := 62) rfl ?_
        refine q_ev_run 2 (S' := (73, [some (.ref 1), some (.int a1), some (.int a2), some (.int (m 2 a2.toNatClampNeg - 48)), some (.int 0), some (.int (m 2 a1.toNatClampNeg - 48))], [.int 257], qMM m n lm)) rfl ?_
        have h_z0 := Option.some.inj h
        subst h_z0
        exact q_ev_ret rfl rfl
      · rw [if_neg hc5] at h
        refine q_ev_brF hc5 (a := 56) (b := 62) rfl ?_
        refine q_ev_run 7 (S' := (73, [some (.ref 1), some (.int a1), some (.int a2), some (.int (m 2 a2.toNatClampNeg - 48)), some (.int 0), some (.int (m 2 a1.toNatClampNeg - 48))], [.int ((258 + (10 * (m 2 a1.toNatClampNeg - 48))) + (m 2 a2.toNatClampNeg - 48))], qMM m n lm)) rfl ?_
        have h_z0 := Option.some.inj h
        subst h_z0
        exact q_ev_ret rfl rfl
    · rw [if_neg hc3] at h
      refine q_ev_brF hc3 (a := 32) (b := 28) rfl ?_
      refine q_ev_run 6 (S' := (40, [some (.ref 1), some (.int a1), some (.int a2), some (.int (m 2 a2.toNatClampNeg - 48)), some (.int 1), none], [.int a1, .ref 2], qMM m n lm)) rfl ?_
      obtain ⟨hb6, h⟩ := q_cd h
      refine q_ev_chk (b := q_in a1 200) hb6 (S' := (41, [some (.ref 1), some (.int a1), some (.int a2), some (.int (m 2 a2.toNatClampNeg - 48)), some (.int 1), none], [.int (m 2 a1.toNatClampNeg)], qMM m n lm)) rfl ?_
      refine q_ev_run 7 (S' := (73, [some (.ref 1), some (.int a1), some (.int a2), some (.int (m 2 a2.toNatClampNeg - 48)), some (.int 1), some (.int (m 2 a1.toNatClampNeg - 48))], [.int 257], qMM m n lm)) rfl ?_
      have h_z0 := Option.some.inj h
      subst h_z0
      exact q_ev_ret rfl rfl
noncomputable def FL_Re_split_1_4 : Nat → (Nat → Nat → Int32) → Int32 → Int32 → Option (Int32 × (Nat → Nat → Int32))
  | 0, _, _, _ => none
  | fu + 1, m, x1, x2 =>
    if m 1 1 ≤ x2 then
      some (x1, m)
    else
      cond (q_in x2 200) (
        if m 2 x2.toNatClampNeg = 32 then
          FL_Re_split_1_4 fu m x1 (x2 + 1)
        else
          Option.bind (F_Re_lastOfFigures_1 m x2) (fun r4 =>
            cond (q_in x1 201) (
              Option.bind (F_Re_isFigure_1 (q_w m 71 x1.toNatClampNeg x2) x2) (fun r7 =>
                if r7 = 0 then
                  cond (q_in x2 200) (cond (q_in x1 201) (FL_Re_split_1_4 fu (q_w (q_w m 71 x1.toNatClampNeg x2) 70 x1.toNatClampNeg (m 2 x2.toNatClampNeg)) (x1 + 1) (r4 + 1)) none) none
                else
                  Option.bind (F_Re_tokenOfFigures_1 (q_w m 71 x1.toNatClampNeg x2) x2 r4) (fun r12 =>
                    cond (q_in x1 201) (FL_Re_split_1_4 fu (q_w (q_w m 71 x1.toNatClampNeg x2) 70 x1.toNatClampNeg r12) (x1 + 1) (r4 + 1)) none))
             ) none)
       ) none
theorem TL_Re_split_1_4 {Ln : Nat} {xs : Nat → Int32} {n : (Nat → Nat → Int32)} {lm : Nat → Int64} {d : Nat} (hd : 2 ≤ d) {r : Option Value × qM} : ∀ (fu : Nat) (m : (Nat → Nat → Int32)) (x1 : Int32) (x2 : Int32) (w3 : Option Value) (y1 : Int32) (m1 : (Nat → Nat → Int32)), FL_Re_split_1_4 fu m x1 x2 = some (y1, m1) → (∀ (u2 u3 : Option Value), q_Ev (qXT Ln xs) d 37 (79, [some (.ref 1), some (.int y1), u2, u3], [], qMM m1 n lm) r) → q_Ev (qXT Ln xs) d 37 (4, [some (.ref 1), some (.int x1), some (.int x2), w3], [], qMM m n lm) r := by
  intro fu
  induction fu with
  | zero => intro m x1 x2 w3 y1 m1 h hk; cases h
  | succ fu ih =>
    intro m x1 x2 w3 y1 m1 h hk
    rw [FL_Re_split_1_4] at h
    refine q_ev_run 3 (S' := (9, [some (.ref 1), some (.int x1), some (.int x2), w3], [.int (m 1 1), .int x2], qMM m n lm)) rfl ?_
    by_cases hc1 : m 1 1 ≤ x2
    · rw [if_pos hc1] at h
      refine q_ev_brT hc1 (a := 79) (b := 12) rfl ?_
      have h_z0 := Option.some.inj h
      obtain ⟨h_0, h_z1⟩ := Prod.mk.inj h_z0
      subst h_0
      subst h_z1
      exact hk (some (.int x2)) (w3)
    · rw [if_neg hc1] at h
      refine q_ev_brF hc1 (a := 79) (b := 12) rfl ?_
      refine q_ev_run 3 (S' := (17, [some (.ref 1), some (.int x1), some (.int x2), w3], [.int x2, .ref 2], qMM m n lm)) rfl ?_
      obtain ⟨hb2, h⟩ := q_cd h
      refine q_ev_chk (b := q_in x2 200) hb2 (S' := (18, [some (.ref 1), some (.int x1), some (.int x2), w3], [.int (m 2 x2.toNatClampNeg)], qMM m n lm)) rfl ?_
      refine q_ev_run 1 (S' := (20, [some (.ref 1), some (.int x1), some (.int x2), w3], [.int 32, .int (m 2 x2.toNatClampNeg)], qMM m n lm)) rfl ?_
      by_cases hc3 : m 2 x2.toNatClampNeg = 32
      · rw [if_pos hc3] at h
        refine q_ev_brT hc3 (a := 23) (b := 26) rfl ?_
        refine q_ev_run 3 (S' := (4, [some (.ref 1), some (.int x1), some (.int (x2 + 1)), w3], [], qMM m n lm)) rfl ?_
        exact ih m x1 (x2 + 1) (w3) _ _ h hk
      · rw [if_neg hc3] at h
        refine q_ev_brF hc3 (a := 23) (b := 26) rfl ?_
        refine q_ev_run 2 (S' := (28, [some (.ref 1), some (.int x1), some (.int x2), w3], [.int x2, .ref 1], qMM m n lm)) rfl ?_
        obtain ⟨r4, hf5, h⟩ := Option.bind_eq_some_iff.mp h
        try dsimp only at h
        refine q_ev_call (S' := (31, [some (.ref 1), some (.int x1), some (.int x2), w3], [], qMM m n lm)) rfl (by omega) (T_Re_lastOfFigures_1 (by first | omega | decide) hf5) ?_
        refine q_ev_eq (S' := (31, [some (.ref 1), some (.int x1), some (.int x2), w3], [.int r4], qMM m n lm)) rfl ?_
        refine q_ev_run 5 (S' := (38, [some (.ref 1), some (.int x1), some (.int x2), some (.int r4)], [.int x2, .int x1, .ref 10], qMM m n lm)) rfl ?_
        obtain ⟨hb6, h⟩ := q_cd h
        refine q_ev_chk (b := q_in x1 201) hb6 (S' := (39, [some (.ref 1), some (.int x1), some (.int x2), some (.int r4)], [], qMM (q_w m 71 x1.toNatClampNeg x2) n lm)) rfl ?_
        refine q_ev_run 5 (S' := (46, [some (.ref 1), some (.int x1), some (.int x2), some (.int r4)], [.int x2, .ref 1, .int x1, .ref 9], qMM (q_w m 71 x1.toNatClampNeg x2) n lm)) rfl ?_
        obtain ⟨r7, hf8, h⟩ := Option.bind_eq_some_iff.mp h
        try dsimp only at h
        refine q_ev_call (S' := (49, [some (.ref 1), some (.int x1), some (.int x2), some (.int r4)], [.int x1, .ref 9], qMM (q_w m 71 x1.toNatClampNeg x2) n lm)) rfl (by omega) (T_Re_isFigure_1 (by first | omega | decide) hf8) ?_
        refine q_ev_eq (S' := (49, [some (.ref 1), some (.int x1), some (.int x2), some (.int r4)], [.int r7, .int x1, .ref 9], qMM (q_w m 71 x1.toNatClampNeg x2) n lm)) rfl ?_
        by_cases hc9 : r7 = 0
        · rw [if_pos hc9] at h
          refine q_ev_brT hc9 (a := 61) (b := 52) rfl ?_
          refine q_ev_run 3 (S' := (66, [some (.ref 1), some (.int x1), some (.int x2), some (.int r4)], [.int x2, .ref 2, .int x1, .ref 9], qMM (q_w m 71 x1.toNatClampNeg x2) n lm)) rfl ?_
          obtain ⟨hb10, h⟩ := q_cd h
          refine q_ev_chk (b := q_in x2 200) hb10 (S' := (67, [some (.ref 1), some (.int x1), some (.int x2), some (.int r4)], [.int (m 2 x2.toNatClampNeg), .int x1, .ref 9], qMM (q_w m 71 x1.toNatClampNeg x2) n lm)) rfl ?_
          obtain ⟨hb11, h⟩ := q_cd h
          refine q_ev_chk (b := q_in x1 201) hb11 (S' := (68, [some (.ref 1), some (.int x1), some (.int x2), some (.int r4)], [], qMM (q_w (q_w m 71 x1.toNatClampNeg x2) 70 x1.toNatClampNeg (m 2 x2.toNatClampNeg)) n lm)) rfl ?_
          refine q_ev_run 5 (S' := (4, [some (.ref 1), some (.int (x1 + 1)), some (.int (r4 + 1)), some (.int r4)], [], qMM (q_w (q_w m 71 x1.toNatClampNeg x2) 70 x1.toNatClampNeg (m 2 x2.toNatClampNeg)) n lm)) rfl ?_
          exact ih (q_w (q_w m 71 x1.toNatClampNeg x2) 70 x1.toNatClampNeg (m 2 x2.toNatClampNeg)) (x1 + 1) (r4 + 1) (some (.int r4)) _ _ h hk
        · rw [if_neg hc9] at h
          refine q_ev_brF hc9 (a := 61) (b := 52) rfl ?_
          refine q_ev_run 3 (S' := (55, [some (.ref 1), some (.int x1), some (.int x2), some (.int r4)], [.int r4, .int x2, .ref 1, .int x1, .ref 9], qMM (q_w m 71 x1.toNatClampNeg x2) n lm)) rfl ?_
          obtain ⟨r12, hf13, h⟩ := Option.bind_eq_some_iff.mp h
          try dsimp only at h
          refine q_ev_call (S' := (58, [some (.ref 1), some (.int x1), some (.int x2), some (.int r4)], [.int x1, .ref 9], qMM (q_w m 71 x1.toNatClampNeg x2) n lm)) rfl (by omega) (T_Re_tokenOfFigures_1 (by first | omega | decide) hf13) ?_
          refine q_ev_eq (S' := (58, [some (.ref 1), some (.int x1), some (.int x2), some (.int r4)], [.int r12, .int x1, .ref 9], qMM (q_w m 71 x1.toNatClampNeg x2) n lm)) rfl ?_
          refine q_ev_run 1 (S' := (67, [some (.ref 1), some (.int x1), some (.int x2), some (.int r4)], [.int r12, .int x1, .ref 9], qMM (q_w m 71 x1.toNatClampNeg x2) n lm)) rfl ?_
          obtain ⟨hb14, h⟩ := q_cd h
          refine q_ev_chk (b := q_in x1 201) hb14 (S' := (68, [some (.ref 1), some (.int x1), some (.int x2), some (.int r4)], [], qMM (q_w (q_w m 71 x1.toNatClampNeg x2) 70 x1.toNatClampNeg r12) n lm)) rfl ?_
          refine q_ev_run 5 (S' := (4, [some (.ref 1), some (.int (x1 + 1)), some (.int (r4 + 1)), some (.int r4)], [], qMM (q_w (q_w m 71 x1.toNatClampNeg x2) 70 x1.toNatClampNeg r12) n lm)) rfl ?_
          exact ih (q_w (q_w m 71 x1.toNatClampNeg x2) 70 x1.toNatClampNeg r12) (x1 + 1) (r4 + 1) (some (.int r4)) _ _ h hk
noncomputable def F_Re_split_1 (m : (Nat → Nat → Int32)) : Option ((Nat → Nat → Int32)) :=
  Option.bind (FL_Re_split_1_4 qFU m 0 0) (fun (y1, m4) =>
    cond (q_in y1 201) (cond (q_in y1 201) (some ((q_w (q_w m4 71 y1.toNatClampNeg (m4 1 1)) 70 y1.toNatClampNeg 256))) none) none)
theorem T_Re_split_1 {Ln : Nat} {xs : Nat → Int32} {n : (Nat → Nat → Int32)} {lm : Nat → Int64} {d : Nat} (hd : 2 ≤ d) {m : (Nat → Nat → Int32)} {m1 : (Nat → Nat → Int32)} (h : F_Re_split_1 m = some m1) : q_Ev (qXT Ln xs) d 37 (0, [some (.ref 1), none, none, none], [], qMM m n lm) (none, qMM m1 n lm) := by
  unfold F_Re_split_1 at h
  refine q_ev_run 4 (S' := (4, [some (.ref 1), some (.int 0), some (.int 0), none], [], qMM m n lm)) rfl ?_
  obtain ⟨⟨y1, m4⟩, hl5, h⟩ := Option.bind_eq_some_iff.mp h
  try dsimp only at h
  refine TL_Re_split_1_4 (by first | omega | decide) _ m 0 0 (none) _ _ hl5 (fun w2 w3 => ?_)
  refine q_ev_run 5 (S' := (88, [some (.ref 1), some (.int y1), w2, w3], [.int (m4 1 1), .int y1, .ref 10], qMM m4 n lm)) rfl ?_
  obtain ⟨hb6, h⟩ := q_cd h
  refine q_ev_chk (b := q_in y1 201) hb6 (S' := (89, [some (.ref 1), some (.int y1), w2, w3], [], qMM (q_w m4 71 y1.toNatClampNeg (m4 1 1)) n lm)) rfl ?_
  refine q_ev_run 4 (S' := (97, [some (.ref 1), some (.int y1), w2, w3], [.int 256, .int y1, .ref 9], qMM (q_w m4 71 y1.toNatClampNeg (m4 1 1)) n lm)) rfl ?_
  obtain ⟨hb7, h⟩ := q_cd h
  refine q_ev_chk (b := q_in y1 201) hb7 (S' := (98, [some (.ref 1), some (.int y1), w2, w3], [], qMM (q_w (q_w m4 71 y1.toNatClampNeg (m4 1 1)) 70 y1.toNatClampNeg 256) n lm)) rfl ?_
  have h_z0 := Option.some.inj h
  subst h_z0
  exact q_ev_ret rfl rfl
noncomputable def F_Re_bitOf (a0 : Int32) : Option (Int32) :=
  some (((1 : Int32) <<< ((a0 - 97) &&& 31)))
theorem T_Re_bitOf {Ln : Nat} {xs : Nat → Int32} {n : (Nat → Nat → Int32)} {m : (Nat → Nat → Int32)} {lm : Nat → Int64} {d : Nat} (hd : 0 ≤ d) {a0 : Int32} {rv : Int32} (h : F_Re_bitOf a0 = some rv) : q_Ev (qXT Ln xs) d 43 (0, [some (.int a0)], [], qMM m n lm) (some (.int rv), qMM m n lm) := by
  unfold F_Re_bitOf at h
  refine q_ev_run 5 (S' := (6, [some (.int a0)], [.int ((1 : Int32) <<< ((a0 - 97) &&& 31))], qMM m n lm)) rfl ?_
  have h_z0 := Option.some.inj h
  subst h_z0
  exact q_ev_ret rfl rfl
noncomputable def F_Re_canBegin_1 (m : (Nat → Nat → Int32)) (a1 : Int32) (a2 : Int32) : Option (Int32) :=
  if a1 = 99 then
    Option.bind (F_Re_bitOf a1) (fun r1 =>
      if (m 1 6 &&& r1) = 0 then
        some (1)
      else
        some (0))
  else
  if a1 = 102 then
    some (1)
  else
  if a1 = 104 then
    if 5 ≤ m 3 1 then
      some (0)
    else
      some (1)
  else
  if a1 = 110 then
    cond (q_bl a2) (some (a2)) none
  else
  if a1 = 114 then
    Option.bind (F_Re_bitOf a1) (fun r10 =>
      if (m 1 6 &&& r10) = 0 then
        some (1)
      else
        some (0))
  else
  if a1 = 115 then
    Option.bind (F_Re_bitOf a1) (fun r14 =>
      if (m 1 6 &&& r14) = 0 then
        some (1)
      else
        some (0))
  else
  if a1 = 116 then
    Option.bind (F_Re_bitOf a1) (fun r18 =>
      if (m 1 6 &&& r18) = 0 then
        some (1)
      else
        some (0))
  else
  if a1 = 118 then
    some (1)
  else
    some (0)
theorem T_Re_canBegin_1 {Ln : Nat} {xs : Nat → Int32} {n : (Nat → Nat → Int32)} {lm : Nat → Int64} {d : Nat} (hd : 1 ≤ d) {m : (Nat → Nat → Int32)} {a1 : Int32} {a2 : Int32} {rv : Int32} (h : F_Re_canBegin_1 m a1 a2 = some rv) : q_Ev (qXT Ln xs) d 42 (0, [some (.ref 1), some (.int a1), some (.int a2)], [], qMM m n lm) (some (.int rv), qMM m n lm) := by
  unfold F_Re_canBegin_1 at h
  refine q_ev_run 1 (S' := (1, [some (.ref 1), some (.int a1), some (.int a2)], [.int a1], qMM m n lm)) rfl ?_
  by_cases hc4 : a1 = 99
  · rw [if_pos hc4] at h
    refine q_ev_sw (v := 117) (a := 117) (show q_sw a1 135 99 [117, 135, 135, 98, 135, 100, 135, 135, 135, 135, 135, 96, 135, 135, 135, 117, 117, 117, 135, 98] = 117 by rw [hc4]; rfl) rfl rfl ?_
    refine q_ev_run 3 (S' := (122, [some (.ref 1), some (.int a1), some (.int a2)], [.int a1, .int (m 1 6)], qMM m n lm)) rfl ?_
    obtain ⟨r1, hf2, h⟩ := Option.bind_eq_some_iff.mp h
    try dsimp only at h
    refine q_ev_call (S' := (125, [some (.ref 1), some (.int a1), some (.int a2)], [.int (m 1 6)], qMM m n lm)) rfl (by omega) (T_Re_bitOf (by first | omega | decide) hf2) ?_
    refine q_ev_eq (S' := (125, [some (.ref 1), some (.int a1), some (.int a2)], [.int r1, .int (m 1 6)], qMM m n lm)) rfl ?_
    refine q_ev_run 1 (S' := (126, [some (.ref 1), some (.int a1), some (.int a2)], [.int (m 1 6 &&& r1)], qMM m n lm)) rfl ?_
    by_cases hc3 : (m 1 6 &&& r1) = 0
    · rw [if_pos hc3] at h
      refine q_ev_brT hc3 (a := 129) (b := 133) rfl ?_
      refine q_ev_run 2 (S' := (134, [some (.ref 1), some (.int a1), some (.int a2)], [.int 1], qMM m n lm)) rfl ?_
      have h_z0 := Option.some.inj h
      subst h_z0
      exact q_ev_ret rfl rfl
    · rw [if_neg hc3] at h
      refine q_ev_brF hc3 (a := 129) (b := 133) rfl ?_
      refine q_ev_run 1 (S' := (134, [some (.ref 1), some (.int a1), some (.int a2)], [.int 0], qMM m n lm)) rfl ?_
      have h_z0 := Option.some.inj h
      subst h_z0
      exact q_ev_ret rfl rfl
  rw [if_neg hc4] at h
  by_cases hc5 : a1 = 102
  · rw [if_pos hc5] at h
    refine q_ev_sw (v := 98) (a := 98) (show q_sw a1 135 99 [117, 135, 135, 98, 135, 100, 135, 135, 135, 135, 135, 96, 135, 135, 135, 117, 117, 117, 135, 98] = 98 by rw [hc5]; rfl) rfl rfl ?_
    refine q_ev_run 1 (S' := (99, [some (.ref 1), some (.int a1), some (.int a2)], [.int 1], qMM m n lm)) rfl ?_
    have h_z0 := Option.some.inj h
    subst h_z0
    exact q_ev_ret rfl rfl
  rw [if_neg hc5] at h
  by_cases hc7 : a1 = 104
  · rw [if_pos hc7] at h
    refine q_ev_sw (v := 100) (a := 100) (show q_sw a1 135 99 [117, 135, 135, 98, 135, 100, 135, 135, 135, 135, 135, 96, 135, 135, 135, 117, 117, 117, 135, 98] = 100 by rw [hc7]; rfl) rfl rfl ?_
    refine q_ev_run 4 (S' := (108, [some (.ref 1), some (.int a1), some (.int a2)], [.int 5, .int (m 3 1)], qMM m n lm)) rfl ?_
    by_cases hc6 : 5 ≤ m 3 1
    · rw [if_pos hc6] at h
      refine q_ev_brT hc6 (a := 115) (b := 111) rfl ?_
      refine q_ev_run 1 (S' := (116, [some (.ref 1), some (.int a1), some (.int a2)], [.int 0], qMM m n lm)) rfl ?_
      have h_z0 := Option.some.inj h
      subst h_z0
      exact q_ev_ret rfl rfl
    · rw [if_neg hc6] at h
      refine q_ev_brF hc6 (a := 115) (b := 111) rfl ?_
      refine q_ev_run 2 (S' := (116, [some (.ref 1), some (.int a1), some (.int a2)], [.int 1], qMM m n lm)) rfl ?_
      have h_z0 := Option.some.inj h
      subst h_z0
      exact q_ev_ret rfl rfl
  rw [if_neg hc7] at h
  by_cases hc9 : a1 = 110
  · rw [if_pos hc9] at h
    refine q_ev_sw (v := 96) (a := 96) (show q_sw a1 135 99 [117, 135, 135, 98, 135, 100, 135, 135, 135, 135, 135, 96, 135, 135, 135, 117, 117, 117, 135, 98] = 96 by rw [hc9]; rfl) rfl rfl ?_
    refine q_ev_run 1 (S' := (97, [some (.ref 1), some (.int a1), some (.int a2)], [.int a2], qMM m n lm)) rfl ?_
    obtain ⟨hb8, h⟩ := q_cd h
    have h_z0 := Option.some.inj h
    subst h_z0
    exact q_ev_retb hb8 rfl rfl
  rw [if_neg hc9] at h
  by_cases hc13 : a1 = 114
  · rw [if_pos hc13] at h
    refine q_ev_sw (v := 117) (a := 117) (show q_sw a1 135 99 [117, 135, 135, 98, 135, 100, 135, 135, 135, 135, 135, 96, 135, 135, 135, 117, 117, 117, 135, 98] = 117 by rw [hc13]; rfl) rfl rfl ?_
    refine q_ev_run 3 (S' := (122, [some (.ref 1), some (.int a1), some (.int a2)], [.int a1, .int (m 1 6)], qMM m n lm)) rfl ?_
    obtain ⟨r10, hf11, h⟩ := Option.bind_eq_some_iff.mp h
    try dsimp only at h
    refine q_ev_call (S' := (125, [some (.ref 1), some (.int a1), some (.int a2)], [.int (m 1 6)], qMM m n lm)) rfl (by omega) (T_Re_bitOf (by first | omega | decide) hf11) ?_
    refine q_ev_eq (S' := (125, [some (.ref 1), some (.int a1), some (.int a2)], [.int r10, .int (m 1 6)], qMM m n lm)) rfl ?_
    refine q_ev_run 1 (S' := (126, [some (.ref 1), some (.int a1), some (.int a2)], [.int (m 1 6 &&& r10)], qMM m n lm)) rfl ?_
    by_cases hc12 : (m 1 6 &&& r10) = 0
    · rw [if_pos hc12] at h
      refine q_ev_brT hc12 (a := 129) (b := 133) rfl ?_
      refine q_ev_run 2 (S' := (134, [some (.ref 1), some (.int a1), some (.int a2)], [.int 1], qMM m n lm)) rfl ?_
      have h_z0 := Option.some.inj h
      subst h_z0
      exact q_ev_ret rfl rfl
    · rw [if_neg hc12] at h
      refine q_ev_brF hc12 (a := 129) (b := 133) rfl ?_
      refine q_ev_run 1 (S' := (134, [some (.ref 1), some (.int a1), some (.int a2)], [.int 0], qMM m n lm)) rfl ?_
      have h_z0 := Option.some.inj h
      subst h_z0
      exact q_ev_ret rfl rfl
  rw [if_neg hc13] at h
  by_cases hc17 : a1 = 115
  · rw [if_pos hc17] at h
    refine q_ev_sw (v := 117) (a := 117) (show q_sw a1 135 99 [117, 135, 135, 98, 135, 100, 135, 135, 135, 135, 135, 96, 135, 135, 135, 117, 117, 117, 135, 98] = 117 by rw [hc17]; rfl) rfl rfl ?_
    refine q_ev_run 3 (S' := (122, [some (.ref 1), some (.int a1), some (.int a2)], [.int a1, .int (m 1 6)], qMM m n lm)) rfl ?_
    obtain ⟨r14, hf15, h⟩ := Option.bind_eq_some_iff.mp h
    try dsimp only at h
    refine q_ev_call (S' := (125, [some (.ref 1), some (.int a1), some (.int a2)], [.int (m 1 6)], qMM m n lm)) rfl (by omega) (T_Re_bitOf (by first | omega | decide) hf15) ?_
    refine q_ev_eq (S' := (125, [some (.ref 1), some (.int a1), some (.int a2)], [.int r14, .int (m 1 6)], qMM m n lm)) rfl ?_
    refine q_ev_run 1 (S' := (126, [some (.ref 1), some (.int a1), some (.int a2)], [.int (m 1 6 &&& r14)], qMM m n lm)) rfl ?_
    by_cases hc16 : (m 1 6 &&& r14) = 0
    · rw [if_pos hc16] at h
      refine q_ev_brT hc16 (a := 129) (b := 133) rfl ?_
      refine q_ev_run 2 (S' := (134, [some (.ref 1), some (.int a1), some (.int a2)], [.int 1], qMM m n lm)) rfl ?_
      have h_z0 := Option.some.inj h
      subst h_z0
      exact q_ev_ret rfl rfl
    · rw [if_neg hc16] at h
      refine q_ev_brF hc16 (a := 129) (b := 133) rfl ?_
      refine q_ev_run 1 (S' := (134, [some (.ref 1), some (.int a1), some (.int a2)], [.int 0], qMM m n lm)) rfl ?_
      have h_z0 := Option.some.inj h
      subst h_z0
      exact q_ev_ret rfl rfl
  rw [if_neg hc17] at h
  by_cases hc21 : a1 = 116
  · rw [if_pos hc21] at h
    refine q_ev_sw (v := 117) (a := 117) (show q_sw a1 135 99 [117, 135, 135, 98, 135, 100, 135, 135, 135, 135, 135, 96, 135, 135, 135, 117, 117, 117, 135, 98] = 117 by rw [hc21]; rfl) rfl rfl ?_
    refine q_ev_run 3 (S' := (122, [some (.ref 1), some (.int a1), some (.int a2)], [.int a1, .int (m 1 6)], qMM m n lm)) rfl ?_
    obtain ⟨r18, hf19, h⟩ := Option.bind_eq_some_iff.mp h
    try dsimp only at h
    refine q_ev_call (S' := (125, [some (.ref 1), some (.int a1), some (.int a2)], [.int (m 1 6)], qMM m n lm)) rfl (by omega) (T_Re_bitOf (by first | omega | decide) hf19) ?_
    refine q_ev_eq (S' := (125, [some (.ref 1), some (.int a1), some (.int a2)], [.int r18, .int (m 1 6)], qMM m n lm)) rfl ?_
    refine q_ev_run 1 (S' := (126, [some (.ref 1), some (.int a1), some (.int a2)], [.int (m 1 6 &&& r18)], qMM m n lm)) rfl ?_
    by_cases hc20 : (m 1 6 &&& r18) = 0
    · rw [if_pos hc20] at h
      refine q_ev_brT hc20 (a := 129) (b := 133) rfl ?_
      refine q_ev_run 2 (S' := (134, [some (.ref 1), some (.int a1), some (.int a2)], [.int 1], qMM m n lm)) rfl ?_
      have h_z0 := Option.some.inj h
      subst h_z0
      exact q_ev_ret rfl rfl
    · rw [if_neg hc20] at h
      refine q_ev_brF hc20 (a := 129) (b := 133) rfl ?_
      refine q_ev_run 1 (S' := (134, [some (.ref 1), some (.int a1), some (.int a2)], [.int 0], qMM m n lm)) rfl ?_
      have h_z0 := Option.some.inj h
      subst h_z0
      exact q_ev_ret rfl rfl
  rw [if_neg hc21] at h
  by_cases hc22 : a1 = 118
  · rw [if_pos hc22] at h
    refine q_ev_sw (v := 98) (a := 98) (show q_sw a1 135 99 [117, 135, 135, 98, 135, 100, 135, 135, 135, 135, 135, 96, 135, 135, 135, 117, 117, 117, 135, 98] = 98 by rw [hc22]; rfl) rfl rfl ?_
    refine q_ev_run 1 (S' := (99, [some (.ref 1), some (.int a1), some (.int a2)], [.int 1], qMM m n lm)) rfl ?_
    have h_z0 := Option.some.inj h
    subst h_z0
    exact q_ev_ret rfl rfl
  rw [if_neg hc22] at h
  refine q_ev_sw (v := 135) (a := 135) (show q_sw a1 135 99 [117, 135, 135, 98, 135, 100, 135, 135, 135, 135, 135, 96, 135, 135, 135, 117, 117, 117, 135, 98] = 135 from q_sw_nd (by show a1 ∉ ([99, 102, 104, 110, 114, 115, 116, 118] : List Int32); simp [hc4, hc5, hc7, hc9, hc13, hc17, hc21, hc22])) rfl rfl ?_
  refine q_ev_run 1 (S' := (136, [some (.ref 1), some (.int a1), some (.int a2)], [.int 0], qMM m n lm)) rfl ?_
  have h_z0 := Option.some.inj h
  subst h_z0
  exact q_ev_ret rfl rfl
noncomputable def F_Re_takeNumber_1 (m : (Nat → Nat → Int32)) (a1 : Int32) (a2 : Int32) : Option (Int32 × (Nat → Nat → Int32)) :=
  cond (q_in (m 1 5) 201) (
    if (m 70 (m 1 5).toNatClampNeg - 258) < 0 then
      some ((Int32.ofInt (-9)), m)
    else
      if (m 70 (m 1 5).toNatClampNeg - 258) < a1 then
        some ((Int32.ofInt (-9)), m)
      else
        if (m 70 (m 1 5).toNatClampNeg - 258) ≤ a2 then
          some ((m 70 (m 1 5).toNatClampNeg - 258), (q_w m 1 5 (m 1 5 + 1)))
        else
          some ((Int32.ofInt (-9)), m)
   ) none
theorem T_Re_takeNumber_1 {Ln : Nat} {xs : Nat → Int32} {n : (Nat → Nat → Int32)} {lm : Nat → Int64} {d : Nat} (hd : 0 ≤ d) {m : (Nat → Nat → Int32)} {a1 : Int32} {a2 : Int32} {rv : Int32} {m1 : (Nat → Nat → Int32)} (h : F_Re_takeNumber_1 m a1 a2 = some (rv, m1)) : q_Ev (qXT Ln xs) d 52 (0, [some (.ref 1), some (.int a1), some (.int a2), none], [], qMM m n lm) (some (.int rv), qMM m1 n lm) := by
  unfold F_Re_takeNumber_1 at h
  refine q_ev_run 4 (S' := (8, [some (.ref 1), some (.int a1), some (.int a2), none], [.int (m 1 5), .ref 9], qMM m n lm)) rfl ?_
  obtain ⟨hb1, h⟩ := q_cd h
  refine q_ev_chk (b := q_in (m 1 5) 201) hb1 (S' := (9, [some (.ref 1), some (.int a1), some (.int a2), none], [.int (m 70 (m 1 5).toNatClampNeg)], qMM m n lm)) rfl ?_
  refine q_ev_run 4 (S' := (15, [some (.ref 1), some (.int a1), some (.int a2), some (.int (m 70 (m 1 5).toNatClampNeg - 258))], [.int (m 70 (m 1 5).toNatClampNeg - 258)], qMM m n lm)) rfl ?_
  by_cases hc2 : (m 70 (m 1 5).toNatClampNeg - 258) < 0
  · rw [if_pos hc2] at h
    refine q_ev_brT hc2 (a := 28) (b := 18) rfl ?_
    refine q_ev_run 1 (S' := (30, [some (.ref 1), some (.int a1), some (.int a2), some (.int (m 70 (m 1 5).toNatClampNeg - 258))], [.int (Int32.ofInt (-9))], qMM m n lm)) rfl ?_
    have h_z0 := Option.some.inj h
    obtain ⟨h_0, h_z1⟩ := Prod.mk.inj h_z0
    subst h_0
    subst h_z1
    exact q_ev_ret rfl rfl
  · rw [if_neg hc2] at h
    refine q_ev_brF hc2 (a := 28) (b := 18) rfl ?_
    refine q_ev_run 2 (S' := (20, [some (.ref 1), some (.int a1), some (.int a2), some (.int (m 70 (m 1 5).toNatClampNeg - 258))], [.int a1, .int (m 70 (m 1 5).toNatClampNeg - 258)], qMM m n lm)) rfl ?_
    by_cases hc3 : (m 70 (m 1 5).toNatClampNeg - 258) < a1
    · rw [if_pos hc3] at h
      refine q_ev_brT hc3 (a := 28) (b := 23) rfl ?_
      refine q_ev_run 1 (S' := (30, [some (.ref 1), some (.int a1), some (.int a2), some (.int (m 70 (m 1 5).toNatClampNeg - 258))], [.int (Int32.ofInt (-9))], qMM m n lm)) rfl ?_
      have h_z0 := Option.some.inj h
      obtain ⟨h_0, h_z1⟩ := Prod.mk.inj h_z0
      subst h_0
      subst h_z1
      exact q_ev_ret rfl rfl
    · rw [if_neg hc3] at h
      refine q_ev_brF hc3 (a := 28) (b := 23) rfl ?_
      refine q_ev_run 2 (S' := (25, [some (.ref 1), some (.int a1), some (.int a2), some (.int (m 70 (m 1 5).toNatClampNeg - 258))], [.int a2, .int (m 70 (m 1 5).toNatClampNeg - 258)], qMM m n lm)) rfl ?_
      by_cases hc4 : (m 70 (m 1 5).toNatClampNeg - 258) ≤ a2
      · rw [if_pos hc4] at h
        refine q_ev_brT hc4 (a := 31) (b := 28) rfl ?_
        refine q_ev_run 7 (S' := (42, [some (.ref 1), some (.int a1), some (.int a2), some (.int (m 70 (m 1 5).toNatClampNeg - 258))], [.int (m 70 (m 1 5).toNatClampNeg - 258)], qMM (q_w m 1 5 (m 1 5 + 1)) n lm)) rfl ?_
        have h_z0 := Option.some.inj h
        obtain ⟨h_0, h_z1⟩ := Prod.mk.inj h_z0
        subst h_0
        subst h_z1
        exact q_ev_ret rfl rfl
      · rw [if_neg hc4] at h
        refine q_ev_brF hc4 (a := 31) (b := 28) rfl ?_
        refine q_ev_run 1 (S' := (30, [some (.ref 1), some (.int a1), some (.int a2), some (.int (m 70 (m 1 5).toNatClampNeg - 258))], [.int (Int32.ofInt (-9))], qMM m n lm)) rfl ?_
        have h_z0 := Option.some.inj h
        obtain ⟨h_0, h_z1⟩ := Prod.mk.inj h_z0
        subst h_0
        subst h_z1
        exact q_ev_ret rfl rfl
noncomputable def F_Re_takePlace_1 (m : (Nat → Nat → Int32)) : Option (Int32 × (Nat → Nat → Int32)) :=
  Option.bind (F_Re_takeNumber_1 m 0 (m 3 0 - 1)) (fun (r1, m2) =>
    some (r1, m2))
theorem T_Re_takePlace_1 {Ln : Nat} {xs : Nat → Int32} {n : (Nat → Nat → Int32)} {lm : Nat → Int64} {d : Nat} (hd : 1 ≤ d) {m : (Nat → Nat → Int32)} {rv : Int32} {m1 : (Nat → Nat → Int32)} (h : F_Re_takePlace_1 m = some (rv, m1)) : q_Ev (qXT Ln xs) d 49 (0, [some (.ref 1)], [], qMM m n lm) (some (.int rv), qMM m1 n lm) := by
  unfold F_Re_takePlace_1 at h
  refine q_ev_run 7 (S' := (11, [some (.ref 1)], [.int (m 3 0 - 1), .int 0, .ref 1], qMM m n lm)) rfl ?_
  obtain ⟨⟨r1, m2⟩, hf3, h⟩ := Option.bind_eq_some_iff.mp h
  try dsimp only at h
  refine q_ev_call (S' := (14, [some (.ref 1)], [], qMM m n lm)) rfl (by omega) (T_Re_takeNumber_1 (by first | omega | decide) hf3) ?_
  refine q_ev_eq (S' := (14, [some (.ref 1)], [.int r1], qMM m2 n lm)) rfl ?_
  have h_z0 := Option.some.inj h
  obtain ⟨h_0, h_z1⟩ := Prod.mk.inj h_z0
  subst h_0
  subst h_z1
  exact q_ev_ret rfl rfl
noncomputable def F_Re_takePlaceUnlike_1 (m : (Nat → Nat → Int32)) (a1 : Int32) : Option (Int32 × (Nat → Nat → Int32)) :=
  cond (q_in (m 1 5) 201) (
    if m 70 (m 1 5).toNatClampNeg = (258 + a1) then
      some ((Int32.ofInt (-9)), m)
    else
      Option.bind (F_Re_takeNumber_1 m 0 (m 3 0 - 1)) (fun (r3, m4) =>
        some (r3, m4))
   ) none
theorem T_Re_takePlaceUnlike_1 {Ln : Nat} {xs : Nat → Int32} {n : (Nat → Nat → Int32)} {lm : Nat → Int64} {d : Nat} (hd : 1 ≤ d) {m : (Nat → Nat → Int32)} {a1 : Int32} {rv : Int32} {m1 : (Nat → Nat → Int32)} (h : F_Re_takePlaceUnlike_1 m a1 = some (rv, m1)) : q_Ev (qXT Ln xs) d 50 (0, [some (.ref 1), some (.int a1)], [], qMM m n lm) (some (.int rv), qMM m1 n lm) := by
  unfold F_Re_takePlaceUnlike_1 at h
  refine q_ev_run 4 (S' := (8, [some (.ref 1), some (.int a1)], [.int (m 1 5), .ref 9], qMM m n lm)) rfl ?_
  obtain ⟨hb1, h⟩ := q_cd h
  refine q_ev_chk (b := q_in (m 1 5) 201) hb1 (S' := (9, [some (.ref 1), some (.int a1)], [.int (m 70 (m 1 5).toNatClampNeg)], qMM m n lm)) rfl ?_
  refine q_ev_run 3 (S' := (14, [some (.ref 1), some (.int a1)], [.int (258 + a1), .int (m 70 (m 1 5).toNatClampNeg)], qMM m n lm)) rfl ?_
  by_cases hc2 : m 70 (m 1 5).toNatClampNeg = (258 + a1)
  · rw [if_pos hc2] at h
    refine q_ev_brT hc2 (a := 17) (b := 22) rfl ?_
    refine q_ev_run 2 (S' := (36, [some (.ref 1), some (.int a1)], [.int (Int32.ofInt (-9))], qMM m n lm)) rfl ?_
    have h_z0 := Option.some.inj h
    obtain ⟨h_0, h_z1⟩ := Prod.mk.inj h_z0
    subst h_0
    subst h_z1
    exact q_ev_ret rfl rfl
  · rw [if_neg hc2] at h
    refine q_ev_brF hc2 (a := 17) (b := 22) rfl ?_
    refine q_ev_run 7 (S' := (33, [some (.ref 1), some (.int a1)], [.int (m 3 0 - 1), .int 0, .ref 1], qMM m n lm)) rfl ?_
    obtain ⟨⟨r3, m4⟩, hf5, h⟩ := Option.bind_eq_some_iff.mp h
    try dsimp only at h
    refine q_ev_call (S' := (36, [some (.ref 1), some (.int a1)], [], qMM m n lm)) rfl (by omega) (T_Re_takeNumber_1 (by first | omega | decide) hf5) ?_
    refine q_ev_eq (S' := (36, [some (.ref 1), some (.int a1)], [.int r3], qMM m4 n lm)) rfl ?_
    have h_z0 := Option.some.inj h
    obtain ⟨h_0, h_z1⟩ := Prod.mk.inj h_z0
    subst h_0
    subst h_z1
    exact q_ev_ret rfl rfl
noncomputable def F_La_pair (a0 : Int32) (a1 : Int32) : Option (Int32) :=
  some (((a0 * 8) + a1))
theorem T_La_pair {Ln : Nat} {xs : Nat → Int32} {n : (Nat → Nat → Int32)} {m : (Nat → Nat → Int32)} {lm : Nat → Int64} {d : Nat} (hd : 0 ≤ d) {a0 : Int32} {a1 : Int32} {rv : Int32} (h : F_La_pair a0 a1 = some rv) : q_Ev (qXT Ln xs) d 17 (0, [some (.int a0), some (.int a1)], [], qMM m n lm) (some (.int rv), qMM m n lm) := by
  unfold F_La_pair at h
  refine q_ev_run 5 (S' := (6, [some (.int a0), some (.int a1)], [.int ((a0 * 8) + a1)], qMM m n lm)) rfl ?_
  have h_z0 := Option.some.inj h
  subst h_z0
  exact q_ev_ret rfl rfl
noncomputable def F_La_putFurrow_3 (m : (Nat → Nat → Int32)) (a1 : Int32) (a2 : Int32) (a3 : Int32) : Option ((Nat → Nat → Int32)) :=
  Option.bind (F_La_pair a1 a2) (fun r1 =>
    cond (q_in r1 64) (
      Option.bind (F_La_pair a2 a1) (fun r4 =>
        cond (q_in r4 64) (some ((q_w (q_w m 4 r1.toNatClampNeg a3) 4 r4.toNatClampNeg a3))) none)
     ) none)
theorem T_La_putFurrow_3 {Ln : Nat} {xs : Nat → Int32} {n : (Nat → Nat → Int32)} {lm : Nat → Int64} {d : Nat} (hd : 1 ≤ d) {m : (Nat → Nat → Int32)} {a1 : Int32} {a2 : Int32} {a3 : Int32} {m1 : (Nat → Nat → Int32)} (h : F_La_putFurrow_3 m a1 a2 a3 = some m1) : q_Ev (qXT Ln xs) d 19 (0, [some (.ref 3), some (.int a1), some (.int a2), some (.int a3)], [], qMM m n lm) (none, qMM m1 n lm) := by
  unfold F_La_putFurrow_3 at h
  refine q_ev_run 4 (S' := (6, [some (.ref 3), some (.int a1), some (.int a2), some (.int a3)], [.int a2, .int a1, .ref 4], qMM m n lm)) rfl ?_
  obtain ⟨r1, hf2, h⟩ := Option.bind_eq_some_iff.mp h
  try dsimp only at h
  refine q_ev_call (S' := (9, [some (.ref 3), some (.int a1), some (.int a2), some (.int a3)], [.ref 4], qMM m n lm)) rfl (by omega) (T_La_pair (by first | omega | decide) hf2) ?_
  refine q_ev_eq (S' := (9, [some (.ref 3), some (.int a1), some (.int a2), some (.int a3)], [.int r1, .ref 4], qMM m n lm)) rfl ?_
  refine q_ev_run 1 (S' := (10, [some (.ref 3), some (.int a1), some (.int a2), some (.int a3)], [.int a3, .int r1, .ref 4], qMM m n lm)) rfl ?_
  obtain ⟨hb3, h⟩ := q_cd h
  refine q_ev_chk (b := q_in r1 64) hb3 (S' := (11, [some (.ref 3), some (.int a1), some (.int a2), some (.int a3)], [], qMM (q_w m 4 r1.toNatClampNeg a3) n lm)) rfl ?_
  refine q_ev_run 4 (S' := (17, [some (.ref 3), some (.int a1), some (.int a2), some (.int a3)], [.int a1, .int a2, .ref 4], qMM (q_w m 4 r1.toNatClampNeg a3) n lm)) rfl ?_
  obtain ⟨r4, hf5, h⟩ := Option.bind_eq_some_iff.mp h
  try dsimp only at h
  refine q_ev_call (S' := (20, [some (.ref 3), some (.int a1), some (.int a2), some (.int a3)], [.ref 4], qMM (q_w m 4 r1.toNatClampNeg a3) n lm)) rfl (by omega) (T_La_pair (by first | omega | decide) hf5) ?_
  refine q_ev_eq (S' := (20, [some (.ref 3), some (.int a1), some (.int a2), some (.int a3)], [.int r4, .ref 4], qMM (q_w m 4 r1.toNatClampNeg a3) n lm)) rfl ?_
  refine q_ev_run 1 (S' := (21, [some (.ref 3), some (.int a1), some (.int a2), some (.int a3)], [.int a3, .int r4, .ref 4], qMM (q_w m 4 r1.toNatClampNeg a3) n lm)) rfl ?_
  obtain ⟨hb6, h⟩ := q_cd h
  refine q_ev_chk (b := q_in r4 64) hb6 (S' := (22, [some (.ref 3), some (.int a1), some (.int a2), some (.int a3)], [], qMM (q_w (q_w m 4 r1.toNatClampNeg a3) 4 r4.toNatClampNeg a3) n lm)) rfl ?_
  have h_z0 := Option.some.inj h
  subst h_z0
  exact q_ev_ret rfl rfl
