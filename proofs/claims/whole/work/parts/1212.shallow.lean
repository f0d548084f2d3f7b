noncomputable def F_AT_saw (m : (Nat → Nat → Int32)) (a1 : Int32) (a2 : Int32) : Option (Int32 × (Nat → Nat → Int32)) :=
  Option.bind (F_Ru_hasPoint_39 m a1) (fun r1 =>
    if r1 = 0 then
      some ((Int32.ofInt (-1)), m)
    else
      if a2 < 0 then
        some ((Int32.ofInt (-1)), m)
      else
        if a2 ≤ 15 then
          cond (q_in a1 8) (cond (q_in a1 8) (some (m 21 a1.toNatClampNeg, (q_w m 21 a1.toNatClampNeg a2))) none) none
        else
          some ((Int32.ofInt (-1)), m))
theorem T_AT_saw {Ln : Nat} {xs : Nat → Int32} {n : (Nat → Nat → Int32)} {lm : Nat → Int64} {d : Nat} (hd : 1 ≤ d) {m : (Nat → Nat → Int32)} {a1 : Int32} {a2 : Int32} {rv : Int32} {m1 : (Nat → Nat → Int32)} (h : F_AT_saw m a1 a2 = some (rv, m1)) : q_Ev (qXT Ln xs) d 83 (0, [some (.ref 0), some (.int a1), some (.int a2), none], [], qMM m n lm) (some (.int rv), qMM m1 n lm) := by
  unfold F_AT_saw at h
  refine q_ev_run 3 (S' := (5, [some (.ref 0), some (.int a1), some (.int a2), none], [.int a1, .ref 39], qMM m n lm)) rfl ?_
  obtain ⟨r1, hf2, h⟩ := Option.bind_eq_some_iff.mp h
  try dsimp only at h
  refine q_ev_call (S' := (8, [some (.ref 0), some (.int a1), some (.int a2), none], [], qMM m n lm)) rfl (by omega) (T_Ru_hasPoint_39 (by first | omega | decide) hf2) ?_
  refine q_ev_eq (S' := (8, [some (.ref 0), some (.int a1), some (.int a2), none], [.int r1], qMM m n lm)) rfl ?_
  by_cases hc3 : r1 = 0
  · rw [if_pos hc3] at h
    refine q_ev_brT hc3 (a := 21) (b := 11) rfl ?_
    refine q_ev_run 1 (S' := (22, [some (.ref 0), some (.int a1), some (.int a2), none], [.int (Int32.ofInt (-1))], qMM m n lm)) rfl ?_
    have h_z := Option.some.inj h
    obtain ⟨h_0, h_z⟩ := Prod.mk.inj h_z
    subst h_0
    subst h_z
    exact q_ev_ret rfl rfl
  · rw [if_neg hc3] at h
    refine q_ev_brF hc3 (a := 21) (b := 11) rfl ?_
    refine q_ev_run 1 (S' := (12, [some (.ref 0), some (.int a1), some (.int a2), none], [.int a2], qMM m n lm)) rfl ?_
    by_cases hc4 : a2 < 0
    · rw [if_pos hc4] at h
      refine q_ev_brT hc4 (a := 21) (b := 15) rfl ?_
      refine q_ev_run 1 (S' := (22, [some (.ref 0), some (.int a1), some (.int a2), none], [.int (Int32.ofInt (-1))], qMM m n lm)) rfl ?_
      have h_z := Option.some.inj h
      obtain ⟨h_0, h_z⟩ := Prod.mk.inj h_z
      subst h_0
      subst h_z
      exact q_ev_ret rfl rfl
    · rw [if_neg hc4] at h
      refine q_ev_brF hc4 (a := 21) (b := 15) rfl ?_
      refine q_ev_run 2 (S' := (18, [some (.ref 0), some (.int a1), some (.int a2), none], [.int 15, .int a2], qMM m n lm)) rfl ?_
      by_cases hc5 : a2 ≤ 15
      · rw [if_pos hc5] at h
        refine q_ev_brT hc5 (a := 23) (b := 21) rfl ?_
        refine q_ev_run 4 (S' := (31, [some (.ref 0), some (.int a1), some (.int a2), none], [.int a1, .ref 21], qMM m n lm)) rfl ?_
        obtain ⟨hb6, h⟩ := q_cd h
        refine q_ev_chk (b := q_in a1 8) hb6 (S' := (32, [some (.ref 0), some (.int a1), some (.int a2), none], [.int (m 21 a1.toNatClampNeg)], qMM m n lm)) rfl ?_
        refine q_ev_run 6 (S' := (42, [some (.ref 0), some (.int a1), some (.int a2), some (.int (m 21 a1.toNatClampNeg))], [.int a2, .int a1, .ref 21], qMM m n lm)) rfl ?_
        obtain ⟨hb7, h⟩ := q_cd h
        refine q_ev_chk (b := q_in a1 8) hb7 (S' := (43, [some (.ref 0), some (.int a1), some (.int a2), some (.int (m 21 a1.toNatClampNeg))], [], qMM (q_w m 21 a1.toNatClampNeg a2) n lm)) rfl ?_
        refine q_ev_run 1 (S' := (44, [some (.ref 0), some (.int a1), some (.int a2), some (.int (m 21 a1.toNatClampNeg))], [.int (m 21 a1.toNatClampNeg)], qMM (q_w m 21 a1.toNatClampNeg a2) n lm)) rfl ?_
        have h_z := Option.some.inj h
        obtain ⟨h_0, h_z⟩ := Prod.mk.inj h_z
        subst h_0
        subst h_z
        exact q_ev_ret rfl rfl
      · rw [if_neg hc5] at h
        refine q_ev_brF hc5 (a := 23) (b := 21) rfl ?_
        refine q_ev_run 1 (S' := (22, [some (.ref 0), some (.int a1), some (.int a2), none], [.int (Int32.ofInt (-1))], qMM m n lm)) rfl ?_
        have h_z := Option.some.inj h
        obtain ⟨h_0, h_z⟩ := Prod.mk.inj h_z
        subst h_0
        subst h_z
        exact q_ev_ret rfl rfl
noncomputable def F_Mo_saw (m : (Nat → Nat → Int32)) (a1 : Int32) (a2 : Int32) : Option (Int32 × (Nat → Nat → Int32)) :=
  Option.bind (F_Mo_isPoint m a1) (fun r1 =>
    if r1 = 0 then
      some ((Int32.ofInt (-1)), m)
    else
      Option.bind (F_Mo_in a2 0 15) (fun r4 =>
        if r4 = 0 then
          some ((Int32.ofInt (-1)), m)
        else
          cond (q_in (57 + a1) 65) (cond (q_in (57 + a1) 65) (some (m 60 ((57 + a1)).toNatClampNeg, (q_w m 60 ((57 + a1)).toNatClampNeg a2))) none) none))
theorem T_Mo_saw {Ln : Nat} {xs : Nat → Int32} {n : (Nat → Nat → Int32)} {lm : Nat → Int64} {d : Nat} (hd : 2 ≤ d) {m : (Nat → Nat → Int32)} {a1 : Int32} {a2 : Int32} {rv : Int32} {m1 : (Nat → Nat → Int32)} (h : F_Mo_saw m a1 a2 = some (rv, m1)) : q_Ev (qXT Ln xs) d 154 (0, [some (.ref 56), some (.int a1), some (.int a2), none], [], qMM n m lm) (some (.int rv), qMM n m1 lm) := by
  unfold F_Mo_saw at h
  refine q_ev_run 2 (S' := (2, [some (.ref 56), some (.int a1), some (.int a2), none], [.int a1, .ref 56], qMM n m lm)) rfl ?_
  obtain ⟨r1, hf2, h⟩ := Option.bind_eq_some_iff.mp h
  try dsimp only at h
  refine q_ev_call (S' := (5, [some (.ref 56), some (.int a1), some (.int a2), none], [], qMM n m lm)) rfl (by omega) (T_Mo_isPoint (by first | omega | decide) hf2) ?_
  refine q_ev_eq (S' := (5, [some (.ref 56), some (.int a1), some (.int a2), none], [.int r1], qMM n m lm)) rfl ?_
  by_cases hc3 : r1 = 0
  · rw [if_pos hc3] at h
    refine q_ev_brT hc3 (a := 18) (b := 8) rfl ?_
    refine q_ev_run 1 (S' := (19, [some (.ref 56), some (.int a1), some (.int a2), none], [.int (Int32.ofInt (-1))], qMM n m lm)) rfl ?_
    have h_z := Option.some.inj h
    obtain ⟨h_0, h_z⟩ := Prod.mk.inj h_z
    subst h_0
    subst h_z
    exact q_ev_ret rfl rfl
  · rw [if_neg hc3] at h
    refine q_ev_brF hc3 (a := 18) (b := 8) rfl ?_
    refine q_ev_run 3 (S' := (12, [some (.ref 56), some (.int a1), some (.int a2), none], [.int 15, .int 0, .int a2], qMM n m lm)) rfl ?_
    obtain ⟨r4, hf5, h⟩ := Option.bind_eq_some_iff.mp h
    try dsimp only at h
    refine q_ev_call (S' := (15, [some (.ref 56), some (.int a1), some (.int a2), none], [], qMM n m lm)) rfl (by omega) (T_Mo_in (by first | omega | decide) hf5) ?_
    refine q_ev_eq (S' := (15, [some (.ref 56), some (.int a1), some (.int a2), none], [.int r4], qMM n m lm)) rfl ?_
    by_cases hc6 : r4 = 0
    · rw [if_pos hc6] at h
      refine q_ev_brT hc6 (a := 18) (b := 20) rfl ?_
      refine q_ev_run 1 (S' := (19, [some (.ref 56), some (.int a1), some (.int a2), none], [.int (Int32.ofInt (-1))], qMM n m lm)) rfl ?_
      have h_z := Option.some.inj h
      obtain ⟨h_0, h_z⟩ := Prod.mk.inj h_z
      subst h_0
      subst h_z
      exact q_ev_ret rfl rfl
    · rw [if_neg hc6] at h
      refine q_ev_brF hc6 (a := 18) (b := 20) rfl ?_
      refine q_ev_run 5 (S' := (28, [some (.ref 56), some (.int a1), some (.int a2), none], [.int (57 + a1), .ref 60], qMM n m lm)) rfl ?_
      obtain ⟨hb7, h⟩ := q_cd h
      refine q_ev_chk (b := q_in (57 + a1) 65) hb7 (S' := (29, [some (.ref 56), some (.int a1), some (.int a2), none], [.int (m 60 ((57 + a1)).toNatClampNeg)], qMM n m lm)) rfl ?_
      refine q_ev_run 7 (S' := (39, [some (.ref 56), some (.int a1), some (.int a2), some (.int (m 60 ((57 + a1)).toNatClampNeg))], [.int a2, .int (57 + a1), .ref 60], qMM n m lm)) rfl ?_
      obtain ⟨hb8, h⟩ := q_cd h
      refine q_ev_chk (b := q_in (57 + a1) 65) hb8 (S' := (40, [some (.ref 56), some (.int a1), some (.int a2), some (.int (m 60 ((57 + a1)).toNatClampNeg))], [], qMM n (q_w m 60 ((57 + a1)).toNatClampNeg a2) lm)) rfl ?_
      refine q_ev_run 1 (S' := (41, [some (.ref 56), some (.int a1), some (.int a2), some (.int (m 60 ((57 + a1)).toNatClampNeg))], [.int (m 60 ((57 + a1)).toNatClampNeg)], qMM n (q_w m 60 ((57 + a1)).toNatClampNeg a2) lm)) rfl ?_
      have h_z := Option.some.inj h
      obtain ⟨h_0, h_z⟩ := Prod.mk.inj h_z
      subst h_0
      subst h_z
      exact q_ev_ret rfl rfl
noncomputable def FL_AT_forget_4 : Nat → (Nat → Nat → Int32) → Int32 → Int32 → Option (Int32 × (Nat → Nat → Int32))
  | 0, _, _, _ => none
  | fu + 1, m, x1, x2 =>
    if 8 ≤ x2 then
      some (x1, m)
    else
      cond (q_in x2 8) (
        if m 21 x2.toNatClampNeg = (Int32.ofInt (-9)) then
          cond (q_in x2 8) (FL_AT_forget_4 fu (q_w m 21 x2.toNatClampNeg (Int32.ofInt (-9))) x1 (x2 + 1)) none
        else
          cond (q_in x2 8) (FL_AT_forget_4 fu (q_w m 21 x2.toNatClampNeg (Int32.ofInt (-9))) (x1 + 1) (x2 + 1)) none
       ) none
theorem TL_AT_forget_4 {Ln : Nat} {xs : Nat → Int32} {n : (Nat → Nat → Int32)} {lm : Nat → Int64} {d : Nat} (hd : 0 ≤ d) {r : Option Value × qM} : ∀ (fu : Nat) (m : (Nat → Nat → Int32)) (x1 : Int32) (x2 : Int32)  (y1 : Int32) (m1 : (Nat → Nat → Int32)), FL_AT_forget_4 fu m x1 x2 = some (y1, m1) → (∀ (u2 : Option Value), q_Ev (qXT Ln xs) d 84 (44, [some (.ref 0), some (.int y1), u2], [], qMM m1 n lm) r) → q_Ev (qXT Ln xs) d 84 (4, [some (.ref 0), some (.int x1), some (.int x2)], [], qMM m n lm) r := by
  intro fu
  induction fu with
  | zero => intro m x1 x2 y1 m1 h hk; cases h
  | succ fu ih =>
    intro m x1 x2 y1 m1 h hk
    rw [FL_AT_forget_4] at h
    refine q_ev_run 2 (S' := (7, [some (.ref 0), some (.int x1), some (.int x2)], [.int 8, .int x2], qMM m n lm)) rfl ?_
    by_cases hc1 : 8 ≤ x2
    · rw [if_pos hc1] at h
      refine q_ev_brT hc1 (a := 44) (b := 10) rfl ?_
      have h_z := Option.some.inj h
      obtain ⟨h_0, h_z⟩ := Prod.mk.inj h_z
      subst h_0
      subst h_z
      exact hk (some (.int x2))
    · rw [if_neg hc1] at h
      refine q_ev_brF hc1 (a := 44) (b := 10) rfl ?_
      refine q_ev_run 4 (S' := (18, [some (.ref 0), some (.int x1), some (.int x2)], [.int x2, .ref 21], qMM m n lm)) rfl ?_
      obtain ⟨hb2, h⟩ := q_cd h
      refine q_ev_chk (b := q_in x2 8) hb2 (S' := (19, [some (.ref 0), some (.int x1), some (.int x2)], [.int (m 21 x2.toNatClampNeg)], qMM m n lm)) rfl ?_
      refine q_ev_run 1 (S' := (21, [some (.ref 0), some (.int x1), some (.int x2)], [.int (Int32.ofInt (-9)), .int (m 21 x2.toNatClampNeg)], qMM m n lm)) rfl ?_
      by_cases hc3 : m 21 x2.toNatClampNeg = (Int32.ofInt (-9))
      · rw [if_pos hc3] at h
        refine q_ev_brT hc3 (a := 27) (b := 24) rfl ?_
        refine q_ev_run 5 (S' := (37, [some (.ref 0), some (.int x1), some (.int x2)], [.int (Int32.ofInt (-9)), .int x2, .ref 21], qMM m n lm)) rfl ?_
        obtain ⟨hb4, h⟩ := q_cd h
        refine q_ev_chk (b := q_in x2 8) hb4 (S' := (38, [some (.ref 0), some (.int x1), some (.int x2)], [], qMM (q_w m 21 x2.toNatClampNeg (Int32.ofInt (-9))) n lm)) rfl ?_
        refine q_ev_run 2 (S' := (4, [some (.ref 0), some (.int x1), some (.int (x2 + 1))], [], qMM (q_w m 21 x2.toNatClampNeg (Int32.ofInt (-9))) n lm)) rfl ?_
        exact ih (q_w m 21 x2.toNatClampNeg (Int32.ofInt (-9))) x1 (x2 + 1) _ _ h hk
      · rw [if_neg hc3] at h
        refine q_ev_brF hc3 (a := 27) (b := 24) rfl ?_
        refine q_ev_run 6 (S' := (37, [some (.ref 0), some (.int (x1 + 1)), some (.int x2)], [.int (Int32.ofInt (-9)), .int x2, .ref 21], qMM m n lm)) rfl ?_
        obtain ⟨hb5, h⟩ := q_cd h
        refine q_ev_chk (b := q_in x2 8) hb5 (S' := (38, [some (.ref 0), some (.int (x1 + 1)), some (.int x2)], [], qMM (q_w m 21 x2.toNatClampNeg (Int32.ofInt (-9))) n lm)) rfl ?_
        refine q_ev_run 2 (S' := (4, [some (.ref 0), some (.int (x1 + 1)), some (.int (x2 + 1))], [], qMM (q_w m 21 x2.toNatClampNeg (Int32.ofInt (-9))) n lm)) rfl ?_
        exact ih (q_w m 21 x2.toNatClampNeg (Int32.ofInt (-9))) (x1 + 1) (x2 + 1) _ _ h hk
noncomputable def F_AT_forget (m : (Nat → Nat → Int32)) : Option (Int32 × (Nat → Nat → Int32)) :=
  Option.bind (FL_AT_forget_4 qFU m 0 0) (fun (y1, m3) =>
    some (y1, m3))
theorem T_AT_forget {Ln : Nat} {xs : Nat → Int32} {n : (Nat → Nat → Int32)} {lm : Nat → Int64} {d : Nat} (hd : 0 ≤ d) {m : (Nat → Nat → Int32)} {rv : Int32} {m1 : (Nat → Nat → Int32)} (h : F_AT_forget m = some (rv, m1)) : q_Ev (qXT Ln xs) d 84 (0, [some (.ref 0), none, none], [], qMM m n lm) (some (.int rv), qMM m1 n lm) := by
  unfold F_AT_forget at h
  refine q_ev_run 4 (S' := (4, [some (.ref 0), some (.int 0), some (.int 0)], [], qMM m n lm)) rfl ?_
  obtain ⟨⟨y1, m3⟩, hl4, h⟩ := Option.bind_eq_some_iff.mp h
  try dsimp only at h
  refine TL_AT_forget_4 (by first | omega | decide) _ m 0 0 _ _ hl4 (fun w2 => ?_)
  refine q_ev_run 1 (S' := (45, [some (.ref 0), some (.int y1), w2], [.int y1], qMM m3 n lm)) rfl ?_
  have h_z := Option.some.inj h
  obtain ⟨h_0, h_z⟩ := Prod.mk.inj h_z
  subst h_0
  subst h_z
  exact q_ev_ret rfl rfl
noncomputable def FL_Mo_forget_4 : Nat → (Nat → Nat → Int32) → Int32 → Int32 → Option (Int32 × (Nat → Nat → Int32))
  | 0, _, _, _ => none
  | fu + 1, m, x1, x2 =>
    if 8 ≤ x2 then
      some (x1, m)
    else
      cond (q_in (57 + x2) 65) (
        if m 60 ((57 + x2)).toNatClampNeg = (Int32.ofInt (-9)) then
          cond (q_in (57 + x2) 65) (FL_Mo_forget_4 fu (q_w m 60 ((57 + x2)).toNatClampNeg (Int32.ofInt (-9))) (x1 + 0) (x2 + 1)) none
        else
          cond (q_in (57 + x2) 65) (FL_Mo_forget_4 fu (q_w m 60 ((57 + x2)).toNatClampNeg (Int32.ofInt (-9))) (x1 + 1) (x2 + 1)) none
       ) none
theorem TL_Mo_forget_4 {Ln : Nat} {xs : Nat → Int32} {n : (Nat → Nat → Int32)} {lm : Nat → Int64} {d : Nat} (hd : 0 ≤ d) {r : Option Value × qM} : ∀ (fu : Nat) (m : (Nat → Nat → Int32)) (x1 : Int32) (x2 : Int32)  (y1 : Int32) (m1 : (Nat → Nat → Int32)), FL_Mo_forget_4 fu m x1 x2 = some (y1, m1) → (∀ (u2 : Option Value), q_Ev (qXT Ln xs) d 155 (49, [some (.ref 56), some (.int y1), u2], [], qMM n m1 lm) r) → q_Ev (qXT Ln xs) d 155 (4, [some (.ref 56), some (.int x1), some (.int x2)], [], qMM n m lm) r := by
  intro fu
  induction fu with
  | zero => intro m x1 x2 y1 m1 h hk; cases h
  | succ fu ih =>
    intro m x1 x2 y1 m1 h hk
    rw [FL_Mo_forget_4] at h
    refine q_ev_run 2 (S' := (7, [some (.ref 56), some (.int x1), some (.int x2)], [.int 8, .int x2], qMM n m lm)) rfl ?_
    by_cases hc1 : 8 ≤ x2
    · rw [if_pos hc1] at h
      refine q_ev_brT hc1 (a := 49) (b := 10) rfl ?_
      have h_z := Option.some.inj h
      obtain ⟨h_0, h_z⟩ := Prod.mk.inj h_z
      subst h_0
      subst h_z
      exact hk (some (.int x2))
    · rw [if_neg hc1] at h
      refine q_ev_brF hc1 (a := 49) (b := 10) rfl ?_
      refine q_ev_run 6 (S' := (19, [some (.ref 56), some (.int x1), some (.int x2)], [.int (57 + x2), .ref 60, .int x1], qMM n m lm)) rfl ?_
      obtain ⟨hb2, h⟩ := q_cd h
      refine q_ev_chk (b := q_in (57 + x2) 65) hb2 (S' := (20, [some (.ref 56), some (.int x1), some (.int x2)], [.int (m 60 ((57 + x2)).toNatClampNeg), .int x1], qMM n m lm)) rfl ?_
      refine q_ev_run 1 (S' := (22, [some (.ref 56), some (.int x1), some (.int x2)], [.int (Int32.ofInt (-9)), .int (m 60 ((57 + x2)).toNatClampNeg), .int x1], qMM n m lm)) rfl ?_
      by_cases hc3 : m 60 ((57 + x2)).toNatClampNeg = (Int32.ofInt (-9))
      · rw [if_pos hc3] at h
        refine q_ev_brT hc3 (a := 25) (b := 29) rfl ?_
        refine q_ev_run 10 (S' := (42, [some (.ref 56), some (.int (x1 + 0)), some (.int x2)], [.int (Int32.ofInt (-9)), .int (57 + x2), .ref 60], qMM n m lm)) rfl ?_
        obtain ⟨hb4, h⟩ := q_cd h
        refine q_ev_chk (b := q_in (57 + x2) 65) hb4 (S' := (43, [some (.ref 56), some (.int (x1 + 0)), some (.int x2)], [], qMM n (q_w m 60 ((57 + x2)).toNatClampNeg (Int32.ofInt (-9))) lm)) rfl ?_
        refine q_ev_run 2 (S' := (4, [some (.ref 56), some (.int (x1 + 0)), some (.int (x2 + 1))], [], qMM n (q_w m 60 ((57 + x2)).toNatClampNeg (Int32.ofInt (-9))) lm)) rfl ?_
        exact ih (q_w m 60 ((57 + x2)).toNatClampNeg (Int32.ofInt (-9))) (x1 + 0) (x2 + 1) _ _ h hk
      · rw [if_neg hc3] at h
        refine q_ev_brF hc3 (a := 25) (b := 29) rfl ?_
        refine q_ev_run 9 (S' := (42, [some (.ref 56), some (.int (x1 + 1)), some (.int x2)], [.int (Int32.ofInt (-9)), .int (57 + x2), .ref 60], qMM n m lm)) rfl ?_
        obtain ⟨hb5, h⟩ := q_cd h
        refine q_ev_chk (b := q_in (57 + x2) 65) hb5 (S' := (43, [some (.ref 56), some (.int (x1 + 1)), some (.int x2)], [], qMM n (q_w m 60 ((57 + x2)).toNatClampNeg (Int32.ofInt (-9))) lm)) rfl ?_
        refine q_ev_run 2 (S' := (4, [some (.ref 56), some (.int (x1 + 1)), some (.int (x2 + 1))], [], qMM n (q_w m 60 ((57 + x2)).toNatClampNeg (Int32.ofInt (-9))) lm)) rfl ?_
        exact ih (q_w m 60 ((57 + x2)).toNatClampNeg (Int32.ofInt (-9))) (x1 + 1) (x2 + 1) _ _ h hk
noncomputable def F_Mo_forget (m : (Nat → Nat → Int32)) : Option (Int32 × (Nat → Nat → Int32)) :=
  Option.bind (FL_Mo_forget_4 qFU m 0 0) (fun (y1, m3) =>
    some (y1, m3))
theorem T_Mo_forget {Ln : Nat} {xs : Nat → Int32} {n : (Nat → Nat → Int32)} {lm : Nat → Int64} {d : Nat} (hd : 0 ≤ d) {m : (Nat → Nat → Int32)} {rv : Int32} {m1 : (Nat → Nat → Int32)} (h : F_Mo_forget m = some (rv, m1)) : q_Ev (qXT Ln xs) d 155 (0, [some (.ref 56), none, none], [], qMM n m lm) (some (.int rv), qMM n m1 lm) := by
  unfold F_Mo_forget at h
  refine q_ev_run 4 (S' := (4, [some (.ref 56), some (.int 0), some (.int 0)], [], qMM n m lm)) rfl ?_
  obtain ⟨⟨y1, m3⟩, hl4, h⟩ := Option.bind_eq_some_iff.mp h
  try dsimp only at h
  refine TL_Mo_forget_4 (by first | omega | decide) _ m 0 0 _ _ hl4 (fun w2 => ?_)
  refine q_ev_run 1 (S' := (50, [some (.ref 56), some (.int y1), w2], [.int y1], qMM n m3 lm)) rfl ?_
  have h_z := Option.some.inj h
  obtain ⟨h_0, h_z⟩ := Prod.mk.inj h_z
  subst h_0
  subst h_z
  exact q_ev_ret rfl rfl
noncomputable def FL_La_canHaveBeen_9_30 : Nat → (Nat → Nat → Int32) → Int32 → Int32 → Int32 → Option ((Int32) ⊕ (Unit))
  | 0, _, _, _, _ => none
  | fu + 1, m, x3, x4, x5 =>
    if 4 ≤ x5 then
      some (.inr ())
    else
      if m 9 5 ≤ 0 then
        if ((x4 >>> (x5 &&& 31)) &&& 1) = 0 then
          FL_La_canHaveBeen_9_30 fu m x3 x4 (x5 + 1)
        else
          some (.inl (0))
      else
        if x3 < (m 9 5 * (x5 + 1)) then
          if ((x4 >>> (x5 &&& 31)) &&& 1) = 0 then
            FL_La_canHaveBeen_9_30 fu m x3 x4 (x5 + 1)
          else
            some (.inl (0))
        else
          if ((x4 >>> (x5 &&& 31)) &&& 1) = 0 then
            FL_La_canHaveBeen_9_30 fu m x3 x4 (x5 + 1)
          else
            FL_La_canHaveBeen_9_30 fu m x3 x4 (x5 + 1)
theorem TL_La_canHaveBeen_9_30 {Ln : Nat} {xs : Nat → Int32} {n : (Nat → Nat → Int32)} {lm : Nat → Int64} {d : Nat} (hd : 0 ≤ d) {r : Option Value × qM} : ∀ (fu : Nat) (m : (Nat → Nat → Int32)) (x3 : Int32) (x4 : Int32) (x5 : Int32) (w1 : Option Value) (w2 : Option Value) (w6 : Option Value) (o : (Int32) ⊕ (Unit)), FL_La_canHaveBeen_9_30 fu m x3 x4 x5 = some o → (∀ (rv : Int32), o = .inl rv → r = (some (.int rv), qMM m n lm)) → (∀ (_ : Unit), o = .inr () → ∀ (u1 u2 u5 u6 : Option Value), q_Ev (qXT Ln xs) d 25 (86, [some (.ref 9), u1, u2, some (.int x3), some (.int x4), u5, u6], [], qMM m n lm) r) → q_Ev (qXT Ln xs) d 25 (30, [some (.ref 9), w1, w2, some (.int x3), some (.int x4), some (.int x5), w6], [], qMM m n lm) r := by
  intro fu
  induction fu with
  | zero => intro m x3 x4 x5 w1 w2 w6 o h hr hk; cases h
  | succ fu ih =>
    intro m x3 x4 x5 w1 w2 w6 o h hr hk
    rw [FL_La_canHaveBeen_9_30] at h
    refine q_ev_run 2 (S' := (33, [some (.ref 9), w1, w2, some (.int x3), some (.int x4), some (.int x5), w6], [.int 4, .int x5], qMM m n lm)) rfl ?_
    by_cases hc1 : 4 ≤ x5
    · rw [if_pos hc1] at h
      refine q_ev_brT hc1 (a := 86) (b := 36) rfl ?_
      obtain rfl := (Option.some.inj h).symm
      exact hk  rfl (w1) (w2) (some (.int x5)) (w6)
    · rw [if_neg hc1] at h
      refine q_ev_brF hc1 (a := 86) (b := 36) rfl ?_
      refine q_ev_run 2 (S' := (40, [some (.ref 9), w1, w2, some (.int x3), some (.int x4), some (.int x5), w6], [.int (m 9 5)], qMM m n lm)) rfl ?_
      by_cases hc2 : m 9 5 ≤ 0
      · rw [if_pos hc2] at h
        refine q_ev_brT hc2 (a := 60) (b := 43) rfl ?_
        refine q_ev_run 7 (S' := (70, [some (.ref 9), w1, w2, some (.int x3), some (.int x4), some (.int x5), some (.int 0)], [.int ((x4 >>> (x5 &&& 31)) &&& 1)], qMM m n lm)) rfl ?_
        by_cases hc3 : ((x4 >>> (x5 &&& 31)) &&& 1) = 0
        · rw [if_pos hc3] at h
          refine q_ev_brT hc3 (a := 80) (b := 73) rfl ?_
          refine q_ev_run 2 (S' := (30, [some (.ref 9), w1, w2, some (.int x3), some (.int x4), some (.int (x5 + 1)), some (.int 0)], [], qMM m n lm)) rfl ?_
          exact ih m x3 x4 (x5 + 1) (w1) (w2) (some (.int 0)) _ h hr hk
        · rw [if_neg hc3] at h
          refine q_ev_brF hc3 (a := 80) (b := 73) rfl ?_
          refine q_ev_run 3 (S' := (79, [some (.ref 9), w1, w2, some (.int x3), some (.int x4), some (.int x5), some (.int 0)], [.int 0], qMM m n lm)) rfl ?_
          obtain rfl := (Option.some.inj h).symm
          rw [hr _ rfl]
          exact q_ev_ret rfl rfl
      · rw [if_neg hc2] at h
        refine q_ev_brF hc2 (a := 60) (b := 43) rfl ?_
        refine q_ev_run 7 (S' := (53, [some (.ref 9), w1, w2, some (.int x3), some (.int x4), some (.int x5), w6], [.int (m 9 5 * (x5 + 1)), .int x3], qMM m n lm)) rfl ?_
        by_cases hc4 : x3 < (m 9 5 * (x5 + 1))
        · rw [if_pos hc4] at h
          refine q_ev_brT hc4 (a := 60) (b := 56) rfl ?_
          refine q_ev_run 7 (S' := (70, [some (.ref 9), w1, w2, some (.int x3), some (.int x4), some (.int x5), some (.int 0)], [.int ((x4 >>> (x5 &&& 31)) &&& 1)], qMM m n lm)) rfl ?_
          by_cases hc5 : ((x4 >>> (x5 &&& 31)) &&& 1) = 0
          · rw [if_pos hc5] at h
            refine q_ev_brT hc5 (a := 80) (b := 73) rfl ?_
            refine q_ev_run 2 (S' := (30, [some (.ref 9), w1, w2, some (.int x3), some (.int x4), some (.int (x5 + 1)), some (.int 0)], [], qMM m n lm)) rfl ?_
            exact ih m x3 x4 (x5 + 1) (w1) (w2) (some (.int 0)) _ h hr hk
          · rw [if_neg hc5] at h
            refine q_ev_brF hc5 (a := 80) (b := 73) rfl ?_
            refine q_ev_run 3 (S' := (79, [some (.ref 9), w1, w2, some (.int x3), some (.int x4), some (.int x5), some (.int 0)], [.int 0], qMM m n lm)) rfl ?_
            obtain rfl := (Option.some.inj h).symm
            rw [hr _ rfl]
            exact q_ev_ret rfl rfl
        · rw [if_neg hc4] at h
          refine q_ev_brF hc4 (a := 60) (b := 56) rfl ?_
          refine q_ev_run 8 (S' := (70, [some (.ref 9), w1, w2, some (.int x3), some (.int x4), some (.int x5), some (.int 1)], [.int ((x4 >>> (x5 &&& 31)) &&& 1)], qMM m n lm)) rfl ?_
          by_cases hc6 : ((x4 >>> (x5 &&& 31)) &&& 1) = 0
          · rw [if_pos hc6] at h
            refine q_ev_brT hc6 (a := 80) (b := 73) rfl ?_
            refine q_ev_run 2 (S' := (30, [some (.ref 9), w1, w2, some (.int x3), some (.int x4), some (.int (x5 + 1)), some (.int 1)], [], qMM m n lm)) rfl ?_
            exact ih m x3 x4 (x5 + 1) (w1) (w2) (some (.int 1)) _ h hr hk
          · rw [if_neg hc6] at h
            refine q_ev_brF hc6 (a := 80) (b := 73) rfl ?_
            refine q_ev_run 4 (S' := (30, [some (.ref 9), w1, w2, some (.int x3), some (.int x4), some (.int (x5 + 1)), some (.int 1)], [], qMM m n lm)) rfl ?_
            exact ih m x3 x4 (x5 + 1) (w1) (w2) (some (.int 1)) _ h hr hk
noncomputable def F_La_canHaveBeen_9 (m : (Nat → Nat → Int32)) (a1 : Int32) (a2 : Int32) (a3 : Int32) : Option (Int32) :=
  cond (q_in a1 5) (
    if (a2 &&& (m 13 a1.toNatClampNeg ^^^ (Int32.ofInt (-1)))) = 0 then
      cond (q_in a1 5) (
        Option.bind (FL_La_canHaveBeen_9_30 qFU m a3 (m 13 a1.toNatClampNeg &&& (a2 ^^^ (Int32.ofInt (-1)))) 0) (fun o9 => match o9 with
          | .inl v0 => some v0
          | .inr _ =>
            some (1))
       ) none
    else
      some (0)
   ) none
theorem T_La_canHaveBeen_9 {Ln : Nat} {xs : Nat → Int32} {n : (Nat → Nat → Int32)} {lm : Nat → Int64} {d : Nat} (hd : 0 ≤ d) {m : (Nat → Nat → Int32)} {a1 : Int32} {a2 : Int32} {a3 : Int32} {rv : Int32} (h : F_La_canHaveBeen_9 m a1 a2 a3 = some rv) : q_Ev (qXT Ln xs) d 25 (0, [some (.ref 9), some (.int a1), some (.int a2), some (.int a3), none, none, none], [], qMM m n lm) (some (.int rv), qMM m n lm) := by
  unfold F_La_canHaveBeen_9 at h
  refine q_ev_run 4 (S' := (6, [some (.ref 9), some (.int a1), some (.int a2), some (.int a3), none, none, none], [.int a1, .ref 13, .int a2], qMM m n lm)) rfl ?_
  obtain ⟨hb1, h⟩ := q_cd h
  refine q_ev_chk (b := q_in a1 5) hb1 (S' := (7, [some (.ref 9), some (.int a1), some (.int a2), some (.int a3), none, none, none], [.int (m 13 a1.toNatClampNeg), .int a2], qMM m n lm)) rfl ?_
  refine q_ev_run 3 (S' := (10, [some (.ref 9), some (.int a1), some (.int a2), some (.int a3), none, none, none], [.int (a2 &&& (m 13 a1.toNatClampNeg ^^^ (Int32.ofInt (-1))))], qMM m n lm)) rfl ?_
  by_cases hc2 : (a2 &&& (m 13 a1.toNatClampNeg ^^^ (Int32.ofInt (-1)))) = 0
  · rw [if_pos hc2] at h
    refine q_ev_brT hc2 (a := 15) (b := 13) rfl ?_
    refine q_ev_run 3 (S' := (20, [some (.ref 9), some (.int a1), some (.int a2), some (.int a3), none, none, none], [.int a1, .ref 13], qMM m n lm)) rfl ?_
    obtain ⟨hb3, h⟩ := q_cd h
    refine q_ev_chk (b := q_in a1 5) hb3 (S' := (21, [some (.ref 9), some (.int a1), some (.int a2), some (.int a3), none, none, none], [.int (m 13 a1.toNatClampNeg)], qMM m n lm)) rfl ?_
    refine q_ev_run 7 (S' := (30, [some (.ref 9), some (.int a1), some (.int a2), some (.int a3), some (.int (m 13 a1.toNatClampNeg &&& (a2 ^^^ (Int32.ofInt (-1))))), some (.int 0), none], [], qMM m n lm)) rfl ?_
    obtain ⟨o9, hl8, h⟩ := Option.bind_eq_some_iff.mp h
    rcases o9 with v0 | _
    · have h_z := Option.some.inj h
      subst h_z
      exact TL_La_canHaveBeen_9_30 (by first | omega | decide) _ m a3 (m 13 a1.toNatClampNeg &&& (a2 ^^^ (Int32.ofInt (-1)))) 0 (some (.int a1)) (some (.int a2)) (none) _ hl8 (fun _ hh => by cases hh; rfl) (fun _ hh => by cases hh)
    · refine TL_La_canHaveBeen_9_30 (by first | omega | decide) _ m a3 (m 13 a1.toNatClampNeg &&& (a2 ^^^ (Int32.ofInt (-1)))) 0 (some (.int a1)) (some (.int a2)) (none) _ hl8 (fun _ hh => by cases hh) (fun _ hh w4 w5 w6 w7 => ?_)
      cases hh
      try dsimp only at h
      refine q_ev_run 1 (S' := (87, [some (.ref 9), w4, w5, some (.int a3), some (.int (m 13 a1.toNatClampNeg &&& (a2 ^^^ (Int32.ofInt (-1))))), w6, w7], [.int 1], qMM m n lm)) rfl ?_
      have h_z := Option.some.inj h
      subst h_z
      exact q_ev_ret rfl rfl
  · rw [if_neg hc2] at h
    refine q_ev_brF hc2 (a := 15) (b := 13) rfl ?_
    refine q_ev_run 1 (S' := (14, [some (.ref 9), some (.int a1), some (.int a2), some (.int a3), none, none, none], [.int 0], qMM m n lm)) rfl ?_
    have h_z := Option.some.inj h
    subst h_z
    exact q_ev_ret rfl rfl
noncomputable def FL_Gu_prepare_52_9_39_21_43 : Nat → (Nat → Nat → Int32) → Int32 → Int32 → Option ((Nat → Nat → Int32))
  | 0, _, _, _ => none
  | fu + 1, m, x4, x5 =>
    if m 39 0 ≤ x5 then
      some (m)
    else
      cond (q_in x5 8) (
        if m 21 x5.toNatClampNeg = (Int32.ofInt (-9)) then
          cond (q_in x4 5) (cond (q_in x4 5) (FL_Gu_prepare_52_9_39_21_43 fu (q_w m 53 x4.toNatClampNeg (m 53 x4.toNatClampNeg ||| ((1 : Int32) <<< (x5 &&& 31)))) x4 (x5 + 1)) none) none
        else
          cond (q_in x5 8) (
            cond (q_in x5 8) (
              Option.bind (F_La_canHaveBeen_9 m x4 (m 21 x5.toNatClampNeg) (m 41 x5.toNatClampNeg)) (fun r8 =>
                if r8 = 0 then
                  FL_Gu_prepare_52_9_39_21_43 fu m x4 (x5 + 1)
                else
                  cond (q_in x4 5) (cond (q_in x4 5) (FL_Gu_prepare_52_9_39_21_43 fu (q_w m 53 x4.toNatClampNeg (m 53 x4.toNatClampNeg ||| ((1 : Int32) <<< (x5 &&& 31)))) x4 (x5 + 1)) none) none)
             ) none
           ) none
       ) none
theorem TL_Gu_prepare_52_9_39_21_43 {Ln : Nat} {xs : Nat → Int32} {n : (Nat → Nat → Int32)} {lm : Nat → Int64} {d : Nat} (hd : 1 ≤ d) {r : Option Value × qM} : ∀ (fu : Nat) (m : (Nat → Nat → Int32)) (x4 : Int32) (x5 : Int32)  (m1 : (Nat → Nat → Int32)), FL_Gu_prepare_52_9_39_21_43 fu m x4 x5 = some m1 → (∀ (u5 : Option Value), q_Ev (qXT Ln xs) d 1 (101, [some (.ref 52), some (.ref 9), some (.ref 39), some (.ref 21), some (.int x4), u5], [], qMM m1 n lm) r) → q_Ev (qXT Ln xs) d 1 (43, [some (.ref 52), some (.ref 9), some (.ref 39), some (.ref 21), some (.int x4), some (.int x5)], [], qMM m n lm) r := by
  intro fu
  induction fu with
  | zero => intro m x4 x5 m1 h hk; cases h
  | succ fu ih =>
    intro m x4 x5 m1 h hk
    rw [FL_Gu_prepare_52_9_39_21_43] at h
    refine q_ev_run 3 (S' := (49, [some (.ref 52), some (.ref 9), some (.ref 39), some (.ref 21), some (.int x4), some (.int x5)], [.int (m 39 0), .int x5], qMM m n lm)) rfl ?_
    by_cases hc1 : m 39 0 ≤ x5
    · rw [if_pos hc1] at h
      refine q_ev_brT hc1 (a := 101) (b := 52) rfl ?_
      have h_z := Option.some.inj h
      subst h_z
      exact hk (some (.int x5))
    · rw [if_neg hc1] at h
      refine q_ev_brF hc1 (a := 101) (b := 52) rfl ?_
      refine q_ev_run 2 (S' := (55, [some (.ref 52), some (.ref 9), some (.ref 39), some (.ref 21), some (.int x4), some (.int x5)], [.int x5, .ref 21], qMM m n lm)) rfl ?_
      obtain ⟨hb2, h⟩ := q_cd h
      refine q_ev_chk (b := q_in x5 8) hb2 (S' := (56, [some (.ref 52), some (.ref 9), some (.ref 39), some (.ref 21), some (.int x4), some (.int x5)], [.int (m 21 x5.toNatClampNeg)], qMM m n lm)) rfl ?_
      refine q_ev_run 1 (S' := (58, [some (.ref 52), some (.ref 9), some (.ref 39), some (.ref 21), some (.int x4), some (.int x5)], [.int (Int32.ofInt (-9)), .int (m 21 x5.toNatClampNeg)], qMM m n lm)) rfl ?_
      by_cases hc3 : m 21 x5.toNatClampNeg = (Int32.ofInt (-9))
      · rw [if_pos hc3] at h
        refine q_ev_brT hc3 (a := 81) (b := 61) rfl ?_
        refine q_ev_run 4 (S' := (88, [some (.ref 52), some (.ref 9), some (.ref 39), some (.ref 21), some (.int x4), some (.int x5)], [.int x4, .ref 53, .int x4, .ref 53], qMM m n lm)) rfl ?_
        obtain ⟨hb4, h⟩ := q_cd h
        refine q_ev_chk (b := q_in x4 5) hb4 (S' := (89, [some (.ref 52), some (.ref 9), some (.ref 39), some (.ref 21), some (.int x4), some (.int x5)], [.int (m 53 x4.toNatClampNeg), .int x4, .ref 53], qMM m n lm)) rfl ?_
        refine q_ev_run 4 (S' := (94, [some (.ref 52), some (.ref 9), some (.ref 39), some (.ref 21), some (.int x4), some (.int x5)], [.int (m 53 x4.toNatClampNeg ||| ((1 : Int32) <<< (x5 &&& 31))), .int x4, .ref 53], qMM m n lm)) rfl ?_
        obtain ⟨hb5, h⟩ := q_cd h
        refine q_ev_chk (b := q_in x4 5) hb5 (S' := (95, [some (.ref 52), some (.ref 9), some (.ref 39), some (.ref 21), some (.int x4), some (.int x5)], [], qMM (q_w m 53 x4.toNatClampNeg (m 53 x4.toNatClampNeg ||| ((1 : Int32) <<< (x5 &&& 31)))) n lm)) rfl ?_
        refine q_ev_run 2 (S' := (43, [some (.ref 52), some (.ref 9), some (.ref 39), some (.ref 21), some (.int x4), some (.int (x5 + 1))], [], qMM (q_w m 53 x4.toNatClampNeg (m 53 x4.toNatClampNeg ||| ((1 : Int32) <<< (x5 &&& 31)))) n lm)) rfl ?_
        exact ih (q_w m 53 x4.toNatClampNeg (m 53 x4.toNatClampNeg ||| ((1 : Int32) <<< (x5 &&& 31)))) x4 (x5 + 1) _ h hk
      · rw [if_neg hc3] at h
        refine q_ev_brF hc3 (a := 81) (b := 61) rfl ?_
        refine q_ev_run 4 (S' := (67, [some (.ref 52), some (.ref 9), some (.ref 39), some (.ref 21), some (.int x4), some (.int x5)], [.int x5, .ref 21, .int x4, .ref 9], qMM m n lm)) rfl ?_
        obtain ⟨hb6, h⟩ := q_cd h
        refine q_ev_chk (b := q_in x5 8) hb6 (S' := (68, [some (.ref 52), some (.ref 9), some (.ref 39), some (.ref 21), some (.int x4), some (.int x5)], [.int (m 21 x5.toNatClampNeg), .int x4, .ref 9], qMM m n lm)) rfl ?_
        refine q_ev_run 3 (S' := (74, [some (.ref 52), some (.ref 9), some (.ref 39), some (.ref 21), some (.int x4), some (.int x5)], [.int x5, .ref 41, .int (m 21 x5.toNatClampNeg), .int x4, .ref 9], qMM m n lm)) rfl ?_
        obtain ⟨hb7, h⟩ := q_cd h
        refine q_ev_chk (b := q_in x5 8) hb7 (S' := (75, [some (.ref 52), some (.ref 9), some (.ref 39), some (.ref 21), some (.int x4), some (.int x5)], [.int (m 41 x5.toNatClampNeg), .int (m 21 x5.toNatClampNeg), .int x4, .ref 9], qMM m n lm)) rfl ?_
        obtain ⟨r8, hf9, h⟩ := Option.bind_eq_some_iff.mp h
        try dsimp only at h
        refine q_ev_call (S' := (78, [some (.ref 52), some (.ref 9), some (.ref 39), some (.ref 21), some (.int x4), some (.int x5)], [], qMM m n lm)) rfl (by omega) (T_La_canHaveBeen_9 (by first | omega | decide) hf9) ?_
        refine q_ev_eq (S' := (78, [some (.ref 52), some (.ref 9), some (.ref 39), some (.ref 21), some (.int x4), some (.int x5)], [.int r8], qMM m n lm)) rfl ?_
        by_cases hc10 : r8 = 0
        · rw [if_pos hc10] at h
          refine q_ev_brT hc10 (a := 95) (b := 81) rfl ?_
          refine q_ev_run 2 (S' := (43, [some (.ref 52), some (.ref 9), some (.ref 39), some (.ref 21), some (.int x4), some (.int (x5 + 1))], [], qMM m n lm)) rfl ?_
          exact ih m x4 (x5 + 1) _ h hk
        · rw [if_neg hc10] at h
          refine q_ev_brF hc10 (a := 95) (b := 81) rfl ?_
          refine q_ev_run 4 (S' := (88, [some (.ref 52), some (.ref 9), some (.ref 39), some (.ref 21), some (.int x4), some (.int x5)], [.int x4, .ref 53, .int x4, .ref 53], qMM m n lm)) rfl ?_
          obtain ⟨hb11, h⟩ := q_cd h
          refine q_ev_chk (b := q_in x4 5) hb11 (S' := (89, [some (.ref 52), some (.ref 9), some (.ref 39), some (.ref 21), some (.int x4), some (.int x5)], [.int (m 53 x4.toNatClampNeg), .int x4, .ref 53], qMM m n lm)) rfl ?_
          refine q_ev_run 4 (S' := (94, [some (.ref 52), some (.ref 9), some (.ref 39), some (.ref 21), some (.int x4), some (.int x5)], [.int (m 53 x4.toNatClampNeg ||| ((1 : Int32) <<< (x5 &&& 31))), .int x4, .ref 53], qMM m n lm)) rfl ?_
          obtain ⟨hb12, h⟩ := q_cd h
          refine q_ev_chk (b := q_in x4 5) hb12 (S' := (95, [some (.ref 52), some (.ref 9), some (.ref 39), some (.ref 21), some (.int x4), some (.int x5)], [], qMM (q_w m 53 x4.toNatClampNeg (m 53 x4.toNatClampNeg ||| ((1 : Int32) <<< (x5 &&& 31)))) n lm)) rfl ?_
          refine q_ev_run 2 (S' := (43, [some (.ref 52), some (.ref 9), some (.ref 39), some (.ref 21), some (.int x4), some (.int (x5 + 1))], [], qMM (q_w m 53 x4.toNatClampNeg (m 53 x4.toNatClampNeg ||| ((1 : Int32) <<< (x5 &&& 31)))) n lm)) rfl ?_
          exact ih (q_w m 53 x4.toNatClampNeg (m 53 x4.toNatClampNeg ||| ((1 : Int32) <<< (x5 &&& 31)))) x4 (x5 + 1) _ h hk
noncomputable def FL_Gu_prepare_52_9_39_21_23 : Nat → (Nat → Nat → Int32) → Int32 → Option ((Nat → Nat → Int32))
  | 0, _, _ => none
  | fu + 1, m, x4 =>
    if m 52 0 ≤ x4 then
      some (m)
    else
      cond (q_in x4 5) (
        Option.bind (FL_Gu_prepare_52_9_39_21_43 qFU (q_w m 53 x4.toNatClampNeg 0) x4 0) (fun m4 =>
          FL_Gu_prepare_52_9_39_21_23 fu m4 (x4 + 1))
       ) none
theorem TL_Gu_prepare_52_9_39_21_23 {Ln : Nat} {xs : Nat → Int32} {n : (Nat → Nat → Int32)} {lm : Nat → Int64} {d : Nat} (hd : 1 ≤ d) {r : Option Value × qM} : ∀ (fu : Nat) (m : (Nat → Nat → Int32)) (x4 : Int32) (w5 : Option Value) (m1 : (Nat → Nat → Int32)), FL_Gu_prepare_52_9_39_21_23 fu m x4 = some m1 → (∀ (u4 u5 : Option Value), q_Ev (qXT Ln xs) d 1 (107, [some (.ref 52), some (.ref 9), some (.ref 39), some (.ref 21), u4, u5], [], qMM m1 n lm) r) → q_Ev (qXT Ln xs) d 1 (23, [some (.ref 52), some (.ref 9), some (.ref 39), some (.ref 21), some (.int x4), w5], [], qMM m n lm) r := by
  intro fu
  induction fu with
  | zero => intro m x4 w5 m1 h hk; cases h
  | succ fu ih =>
    intro m x4 w5 m1 h hk
    rw [FL_Gu_prepare_52_9_39_21_23] at h
    refine q_ev_run 3 (S' := (29, [some (.ref 52), some (.ref 9), some (.ref 39), some (.ref 21), some (.int x4), w5], [.int (m 52 0), .int x4], qMM m n lm)) rfl ?_
    by_cases hc1 : m 52 0 ≤ x4
    · rw [if_pos hc1] at h
      refine q_ev_brT hc1 (a := 107) (b := 32) rfl ?_
      have h_z := Option.some.inj h
      subst h_z
      exact hk (some (.int x4)) (w5)
    · rw [if_neg hc1] at h
      refine q_ev_brF hc1 (a := 107) (b := 32) rfl ?_
      refine q_ev_run 4 (S' := (39, [some (.ref 52), some (.ref 9), some (.ref 39), some (.ref 21), some (.int x4), w5], [.int 0, .int x4, .ref 53], qMM m n lm)) rfl ?_
      obtain ⟨hb2, h⟩ := q_cd h
      refine q_ev_chk (b := q_in x4 5) hb2 (S' := (40, [some (.ref 52), some (.ref 9), some (.ref 39), some (.ref 21), some (.int x4), w5], [], qMM (q_w m 53 x4.toNatClampNeg 0) n lm)) rfl ?_
      refine q_ev_run 2 (S' := (43, [some (.ref 52), some (.ref 9), some (.ref 39), some (.ref 21), some (.int x4), some (.int 0)], [], qMM (q_w m 53 x4.toNatClampNeg 0) n lm)) rfl ?_
      obtain ⟨m4, hl5, h⟩ := Option.bind_eq_some_iff.mp h
      try dsimp only at h
      refine TL_Gu_prepare_52_9_39_21_43 (by first | omega | decide) _ (q_w m 53 x4.toNatClampNeg 0) x4 0 _ hl5 (fun w3 => ?_)
      refine q_ev_run 2 (S' := (23, [some (.ref 52), some (.ref 9), some (.ref 39), some (.ref 21), some (.int (x4 + 1)), w3], [], qMM m4 n lm)) rfl ?_
      exact ih m4 (x4 + 1) (w3) _ h hk
noncomputable def FL_Gu_findSetsInTime_52_39_24 : Nat → (Nat → Nat → Int32) → Int32 → Int32 → Int32 → Option ((Nat → Nat → Int32))
  | 0, _, _, _, _ => none
  | fu + 1, m, x2, x3, x4 =>
    if x3 ≤ x4 then
      some (m)
    else
      cond (q_in x4 256) (
        if m 54 x4.toNatClampNeg = 0 then
          cond (q_in (x3 ||| x4) 256) (FL_Gu_findSetsInTime_52_39_24 fu (q_w m 54 ((x3 ||| x4)).toNatClampNeg 0) x2 x3 (x4 + 1)) none
        else
          cond (q_in x2 8) (
            if (x4 &&& (m 42 x2.toNatClampNeg ^^^ (Int32.ofInt (-1)))) = 0 then
              cond (q_in (x3 ||| x4) 256) (FL_Gu_findSetsInTime_52_39_24 fu (q_w m 54 ((x3 ||| x4)).toNatClampNeg 1) x2 x3 (x4 + 1)) none
            else
              cond (q_in (x3 ||| x4) 256) (FL_Gu_findSetsInTime_52_39_24 fu (q_w m 54 ((x3 ||| x4)).toNatClampNeg 0) x2 x3 (x4 + 1)) none
           ) none
       ) none
theorem TL_Gu_findSetsInTime_52_39_24 {Ln : Nat} {xs : Nat → Int32} {n : (Nat → Nat → Int32)} {lm : Nat → Int64} {d : Nat} (hd : 0 ≤ d) {r : Option Value × qM} : ∀ (fu : Nat) (m : (Nat → Nat → Int32)) (x2 : Int32) (x3 : Int32) (x4 : Int32)  (m1 : (Nat → Nat → Int32)), FL_Gu_findSetsInTime_52_39_24 fu m x2 x3 x4 = some m1 → (∀ (u4 : Option Value), q_Ev (qXT Ln xs) d 2 (74, [some (.ref 52), some (.ref 39), some (.int x2), some (.int x3), u4], [], qMM m1 n lm) r) → q_Ev (qXT Ln xs) d 2 (24, [some (.ref 52), some (.ref 39), some (.int x2), some (.int x3), some (.int x4)], [], qMM m n lm) r := by
  intro fu
  induction fu with
  | zero => intro m x2 x3 x4 m1 h hk; cases h
  | succ fu ih =>
    intro m x2 x3 x4 m1 h hk
    rw [FL_Gu_findSetsInTime_52_39_24] at h
    refine q_ev_run 2 (S' := (27, [some (.ref 52), some (.ref 39), some (.int x2), some (.int x3), some (.int x4)], [.int x3, .int x4], qMM m n lm)) rfl ?_
    by_cases hc1 : x3 ≤ x4
    · rw [if_pos hc1] at h
      refine q_ev_brT hc1 (a := 74) (b := 30) rfl ?_
      have h_z := Option.some.inj h
      subst h_z
      exact hk (some (.int x4))
    · rw [if_neg hc1] at h
      refine q_ev_brF hc1 (a := 74) (b := 30) rfl ?_
      refine q_ev_run 8 (S' := (44, [some (.ref 52), some (.ref 39), some (.int x2), some (.int x3), some (.int x4)], [.int x4, .ref 54, .int (x3 ||| x4), .ref 54], qMM m n lm)) rfl ?_
      obtain ⟨hb2, h⟩ := q_cd h
      refine q_ev_chk (b := q_in x4 256) hb2 (S' := (45, [some (.ref 52), some (.ref 39), some (.int x2), some (.int x3), some (.int x4)], [.int (m 54 x4.toNatClampNeg), .int (x3 ||| x4), .ref 54], qMM m n lm)) rfl ?_
      by_cases hc3 : m 54 x4.toNatClampNeg = 0
      · rw [if_pos hc3] at h
        refine q_ev_brT hc3 (a := 66) (b := 48) rfl ?_
        refine q_ev_run 1 (S' := (67, [some (.ref 52), some (.ref 39), some (.int x2), some (.int x3), some (.int x4)], [.int 0, .int (x3 ||| x4), .ref 54], qMM m n lm)) rfl ?_
        obtain ⟨hb4, h⟩ := q_cd h
        refine q_ev_chk (b := q_in (x3 ||| x4) 256) hb4 (S' := (68, [some (.ref 52), some (.ref 39), some (.int x2), some (.int x3), some (.int x4)], [], qMM (q_w m 54 ((x3 ||| x4)).toNatClampNeg 0) n lm)) rfl ?_
        refine q_ev_run 2 (S' := (24, [some (.ref 52), some (.ref 39), some (.int x2), some (.int x3), some (.int (x4 + 1))], [], qMM (q_w m 54 ((x3 ||| x4)).toNatClampNeg 0) n lm)) rfl ?_
        exact ih (q_w m 54 ((x3 ||| x4)).toNatClampNeg 0) x2 x3 (x4 + 1) _ h hk
      · rw [if_neg hc3] at h
        refine q_ev_brF hc3 (a := 66) (b := 48) rfl ?_
        refine q_ev_run 4 (S' := (55, [some (.ref 52), some (.ref 39), some (.int x2), some (.int x3), some (.int x4)], [.int x2, .ref 42, .int x4, .int (x3 ||| x4), .ref 54], qMM m n lm)) rfl ?_
        obtain ⟨hb5, h⟩ := q_cd h
        refine q_ev_chk (b := q_in x2 8) hb5 (S' := (56, [some (.ref 52), some (.ref 39), some (.int x2), some (.int x3), some (.int x4)], [.int (m 42 x2.toNatClampNeg), .int x4, .int (x3 ||| x4), .ref 54], qMM m n lm)) rfl ?_
        refine q_ev_run 3 (S' := (59, [some (.ref 52), some (.ref 39), some (.int x2), some (.int x3), some (.int x4)], [.int (x4 &&& (m 42 x2.toNatClampNeg ^^^ (Int32.ofInt (-1)))), .int (x3 ||| x4), .ref 54], qMM m n lm)) rfl ?_
        by_cases hc6 : (x4 &&& (m 42 x2.toNatClampNeg ^^^ (Int32.ofInt (-1)))) = 0
        · rw [if_pos hc6] at h
          refine q_ev_brT hc6 (a := 62) (b := 66) rfl ?_
          refine q_ev_run 2 (S' := (67, [some (.ref 52), some (.ref 39), some (.int x2), some (.int x3), some (.int x4)], [.int 1, .int (x3 ||| x4), .ref 54], qMM m n lm)) rfl ?_
          obtain ⟨hb7, h⟩ := q_cd h
          refine q_ev_chk (b := q_in (x3 ||| x4) 256) hb7 (S' := (68, [some (.ref 52), some (.ref 39), some (.int x2), some (.int x3), some (.int x4)], [], qMM (q_w m 54 ((x3 ||| x4)).toNatClampNeg 1) n lm)) rfl ?_
          refine q_ev_run 2 (S' := (24, [some (.ref 52), some (.ref 39), some (.int x2), some (.int x3), some (.int (x4 + 1))], [], qMM (q_w m 54 ((x3 ||| x4)).toNatClampNeg 1) n lm)) rfl ?_
          exact ih (q_w m 54 ((x3 ||| x4)).toNatClampNeg 1) x2 x3 (x4 + 1) _ h hk
        · rw [if_neg hc6] at h
          refine q_ev_brF hc6 (a := 62) (b := 66) rfl ?_
          refine q_ev_run 1 (S' := (67, [some (.ref 52), some (.ref 39), some (.int x2), some (.int x3), some (.int x4)], [.int 0, .int (x3 ||| x4), .ref 54], qMM m n lm)) rfl ?_
          obtain ⟨hb8, h⟩ := q_cd h
          refine q_ev_chk (b := q_in (x3 ||| x4) 256) hb8 (S' := (68, [some (.ref 52), some (.ref 39), some (.int x2), some (.int x3), some (.int x4)], [], qMM (q_w m 54 ((x3 ||| x4)).toNatClampNeg 0) n lm)) rfl ?_
          refine q_ev_run 2 (S' := (24, [some (.ref 52), some (.ref 39), some (.int x2), some (.int x3), some (.int (x4 + 1))], [], qMM (q_w m 54 ((x3 ||| x4)).toNatClampNeg 0) n lm)) rfl ?_
          exact ih (q_w m 54 ((x3 ||| x4)).toNatClampNeg 0) x2 x3 (x4 + 1) _ h hk
noncomputable def FL_Gu_findSetsInTime_52_39_9 : Nat → (Nat → Nat → Int32) → Int32 → Option ((Nat → Nat → Int32))
  | 0, _, _ => none
  | fu + 1, m, x2 =>
    if m 39 0 ≤ x2 then
      some (m)
    else
      Option.bind (FL_Gu_findSetsInTime_52_39_24 qFU m x2 ((1 : Int32) <<< (x2 &&& 31)) 0) (fun m3 =>
        FL_Gu_findSetsInTime_52_39_9 fu m3 (x2 + 1))
theorem TL_Gu_findSetsInTime_52_39_9 {Ln : Nat} {xs : Nat → Int32} {n : (Nat → Nat → Int32)} {lm : Nat → Int64} {d : Nat} (hd : 0 ≤ d) {r : Option Value × qM} : ∀ (fu : Nat) (m : (Nat → Nat → Int32)) (x2 : Int32) (w3 : Option Value) (w4 : Option Value) (m1 : (Nat → Nat → Int32)), FL_Gu_findSetsInTime_52_39_9 fu m x2 = some m1 → (∀ (u2 u3 u4 : Option Value), q_Ev (qXT Ln xs) d 2 (80, [some (.ref 52), some (.ref 39), u2, u3, u4], [], qMM m1 n lm) r) → q_Ev (qXT Ln xs) d 2 (9, [some (.ref 52), some (.ref 39), some (.int x2), w3, w4], [], qMM m n lm) r := by
  intro fu
  induction fu with
  | zero => intro m x2 w3 w4 m1 h hk; cases h
  | succ fu ih =>
    intro m x2 w3 w4 m1 h hk
    rw [FL_Gu_findSetsInTime_52_39_9] at h
    refine q_ev_run 3 (S' := (14, [some (.ref 52), some (.ref 39), some (.int x2), w3, w4], [.int (m 39 0), .int x2], qMM m n lm)) rfl ?_
    by_cases hc1 : m 39 0 ≤ x2
    · rw [if_pos hc1] at h
      refine q_ev_brT hc1 (a := 80) (b := 17) rfl ?_
      have h_z := Option.some.inj h
      subst h_z
      exact hk (some (.int x2)) (w3) (w4)
    · rw [if_neg hc1] at h
      refine q_ev_brF hc1 (a := 80) (b := 17) rfl ?_
      refine q_ev_run 6 (S' := (24, [some (.ref 52), some (.ref 39), some (.int x2), some (.int ((1 : Int32) <<< (x2 &&& 31))), some (.int 0)], [], qMM m n lm)) rfl ?_
      obtain ⟨m3, hl4, h⟩ := Option.bind_eq_some_iff.mp h
      try dsimp only at h
      refine TL_Gu_findSetsInTime_52_39_24 (by first | omega | decide) _ m x2 ((1 : Int32) <<< (x2 &&& 31)) 0 _ hl4 (fun w2 => ?_)
      refine q_ev_run 2 (S' := (9, [some (.ref 52), some (.ref 39), some (.int (x2 + 1)), some (.int ((1 : Int32) <<< (x2 &&& 31))), w2], [], qMM m3 n lm)) rfl ?_
      exact ih m3 (x2 + 1) (some (.int ((1 : Int32) <<< (x2 &&& 31)))) (w2) _ h hk
noncomputable def F_Gu_findSetsInTime_52_39 (m : (Nat → Nat → Int32)) : Option ((Nat → Nat → Int32)) :=
  Option.bind (FL_Gu_findSetsInTime_52_39_9 qFU (q_w m 54 0 1) 0) (fun m4 =>
    some (m4))
theorem T_Gu_findSetsInTime_52_39 {Ln : Nat} {xs : Nat → Int32} {n : (Nat → Nat → Int32)} {lm : Nat → Int64} {d : Nat} (hd : 0 ≤ d) {m : (Nat → Nat → Int32)} {m1 : (Nat → Nat → Int32)} (h : F_Gu_findSetsInTime_52_39 m = some m1) : q_Ev (qXT Ln xs) d 2 (0, [some (.ref 52), some (.ref 39), none, none, none], [], qMM m n lm) (none, qMM m1 n lm) := by
  unfold F_Gu_findSetsInTime_52_39 at h
  refine q_ev_run 7 (S' := (9, [some (.ref 52), some (.ref 39), some (.int 0), none, none], [], qMM (q_w m 54 0 1) n lm)) rfl ?_
  obtain ⟨m4, hl5, h⟩ := Option.bind_eq_some_iff.mp h
  try dsimp only at h
  refine TL_Gu_findSetsInTime_52_39_9 (by first | omega | decide) _ (q_w m 54 0 1) 0 (none) (none) _ hl5 (fun w1 w2 w3 => ?_)
  have h_z := Option.some.inj h
  subst h_z
  exact q_ev_ret rfl rfl
noncomputable def F_Gu_prepare_52_9_39_21 (m : (Nat → Nat → Int32)) : Option ((Nat → Nat → Int32)) :=
  Option.bind (FL_Gu_prepare_52_9_39_21_23 qFU (q_w (q_w m 52 0 (m 9 1)) 52 1 (((1 : Int32) <<< (m 39 0 &&& 31)) - 1)) 0) (fun m3 =>
    Option.bind (F_Gu_findSetsInTime_52_39 m3) (fun m5 =>
      some (m5)))
theorem T_Gu_prepare_52_9_39_21 {Ln : Nat} {xs : Nat → Int32} {n : (Nat → Nat → Int32)} {lm : Nat → Int64} {d : Nat} (hd : 1 ≤ d) {m : (Nat → Nat → Int32)} {m1 : (Nat → Nat → Int32)} (h : F_Gu_prepare_52_9_39_21 m = some m1) : q_Ev (qXT Ln xs) d 1 (0, [some (.ref 52), some (.ref 9), some (.ref 39), some (.ref 21), none, none], [], qMM m n lm) (none, qMM m1 n lm) := by
  unfold F_Gu_prepare_52_9_39_21 at h
  refine q_ev_run 14 (S' := (23, [some (.ref 52), some (.ref 9), some (.ref 39), some (.ref 21), some (.int 0), none], [], qMM (q_w (q_w m 52 0 (m 9 1)) 52 1 (((1 : Int32) <<< (m 39 0 &&& 31)) - 1)) n lm)) rfl ?_
  obtain ⟨m3, hl4, h⟩ := Option.bind_eq_some_iff.mp h
  try dsimp only at h
  refine TL_Gu_prepare_52_9_39_21_23 (by first | omega | decide) _ (q_w (q_w m 52 0 (m 9 1)) 52 1 (((1 : Int32) <<< (m 39 0 &&& 31)) - 1)) 0 (none) _ hl4 (fun w1 w2 => ?_)
  refine q_ev_run 2 (S' := (109, [some (.ref 52), some (.ref 9), some (.ref 39), some (.ref 21), w1, w2], [.ref 39, .ref 52], qMM m3 n lm)) rfl ?_
  obtain ⟨m5, hf6, h⟩ := Option.bind_eq_some_iff.mp h
  try dsimp only at h
  refine q_ev_call (S' := (112, [some (.ref 52), some (.ref 9), some (.ref 39), some (.ref 21), w1, w2], [], qMM m3 n lm)) rfl (by omega) (T_Gu_findSetsInTime_52_39 (by first | omega | decide) hf6) ?_
  refine q_ev_eq (S' := (112, [some (.ref 52), some (.ref 9), some (.ref 39), some (.ref 21), w1, w2], [], qMM m5 n lm)) rfl ?_
  have h_z := Option.some.inj h
  subst h_z
  exact q_ev_ret rfl rfl
noncomputable def FL_Ar_fill_55_5 : Nat → (Nat → Nat → Int32) → Int32 → Int32 → Int32 → Option ((Nat → Nat → Int32))
  | 0, _, _, _, _ => none
  | fu + 1, m, x1, x2, x3 =>
    if x3 ≤ x2 then
      some (m)
    else
      cond (q_in x2 256) (FL_Ar_fill_55_5 fu (q_w m 55 x2.toNatClampNeg x1) x1 (x2 + 1) x3) none
theorem TL_Ar_fill_55_5 {Ln : Nat} {xs : Nat → Int32} {n : (Nat → Nat → Int32)} {lm : Nat → Int64} {d : Nat} (hd : 0 ≤ d) {r : Option Value × qM} : ∀ (fu : Nat) (m : (Nat → Nat → Int32)) (x1 : Int32) (x2 : Int32) (x3 : Int32)  (m1 : (Nat → Nat → Int32)), FL_Ar_fill_55_5 fu m x1 x2 x3 = some m1 → (∀ (u2 : Option Value), q_Ev (qXT Ln xs) d 169 (20, [some (.ref 55), some (.int x1), u2, some (.int x3)], [], qMM m1 n lm) r) → q_Ev (qXT Ln xs) d 169 (5, [some (.ref 55), some (.int x1), some (.int x2), some (.int x3)], [], qMM m n lm) r := by
  intro fu
  induction fu with
  | zero => intro m x1 x2 x3 m1 h hk; cases h
  | succ fu ih =>
    intro m x1 x2 x3 m1 h hk
    rw [FL_Ar_fill_55_5] at h
    refine q_ev_run 2 (S' := (7, [some (.ref 55), some (.int x1), some (.int x2), some (.int x3)], [.int x3, .int x2], qMM m n lm)) rfl ?_
    by_cases hc1 : x3 ≤ x2
    · rw [if_pos hc1] at h
      refine q_ev_brT hc1 (a := 20) (b := 10) rfl ?_
      have h_z := Option.some.inj h
      subst h_z
      exact hk (some (.int x2))
    · rw [if_neg hc1] at h
      refine q_ev_brF hc1 (a := 20) (b := 10) rfl ?_
      refine q_ev_run 3 (S' := (13, [some (.ref 55), some (.int x1), some (.int x2), some (.int x3)], [.int x1, .int x2, .ref 55], qMM m n lm)) rfl ?_
      obtain ⟨hb2, h⟩ := q_cd h
      refine q_ev_chk (b := q_in x2 256) hb2 (S' := (14, [some (.ref 55), some (.int x1), some (.int x2), some (.int x3)], [], qMM (q_w m 55 x2.toNatClampNeg x1) n lm)) rfl ?_
      refine q_ev_run 2 (S' := (5, [some (.ref 55), some (.int x1), some (.int (x2 + 1)), some (.int x3)], [], qMM (q_w m 55 x2.toNatClampNeg x1) n lm)) rfl ?_
      exact ih (q_w m 55 x2.toNatClampNeg x1) x1 (x2 + 1) x3 _ h hk
noncomputable def F_Ar_fill_55 (m : (Nat → Nat → Int32)) (a1 : Int32) : Option ((Nat → Nat → Int32)) :=
  Option.bind (FL_Ar_fill_55_5 qFU m a1 0 256) (fun m2 =>
    some (m2))
theorem T_Ar_fill_55 {Ln : Nat} {xs : Nat → Int32} {n : (Nat → Nat → Int32)} {lm : Nat → Int64} {d : Nat} (hd : 0 ≤ d) {m : (Nat → Nat → Int32)} {a1 : Int32} {m1 : (Nat → Nat → Int32)} (h : F_Ar_fill_55 m a1 = some m1) : q_Ev (qXT Ln xs) d 169 (0, [some (.ref 55), some (.int a1), none, none], [], qMM m n lm) (none, qMM m1 n lm) := by
  unfold F_Ar_fill_55 at h
  refine q_ev_run 5 (S' := (5, [some (.ref 55), some (.int a1), some (.int 0), some (.int 256)], [], qMM m n lm)) rfl ?_
  obtain ⟨m2, hl3, h⟩ := Option.bind_eq_some_iff.mp h
  try dsimp only at h
  refine TL_Ar_fill_55_5 (by first | omega | decide) _ m a1 0 256 _ hl3 (fun w1 => ?_)
  have h_z := Option.some.inj h
  subst h_z
  exact q_ev_ret rfl rfl
noncomputable def FL_Gu_addHedgehog_52_21 : Nat → (Nat → Nat → Int32) → Int32 → Int32 → Int32 → Int32 → Option (Int32)
  | 0, _, _, _, _, _ => none
  | fu + 1, m, x1, x2, x3, x4 =>
    if x4 ≤ 0 then
      some (x3)
    else
      cond (q_in x4 256) (
        if m 54 x4.toNatClampNeg = 0 then
          FL_Gu_addHedgehog_52_21 fu m x1 x2 x3 (((x4 - 1) &&& x2) &&& x1)
        else
          cond (q_in (x2 ^^^ x4) 256) (FL_Gu_addHedgehog_52_21 fu m x1 x2 (x3 + m 55 ((x2 ^^^ x4)).toNatClampNeg) (((x4 - 1) &&& x2) &&& x1)) none
       ) none
theorem TL_Gu_addHedgehog_52_21 {Ln : Nat} {xs : Nat → Int32} {n : (Nat → Nat → Int32)} {lm : Nat → Int64} {d : Nat} (hd : 0 ≤ d) {r : Option Value × qM} : ∀ (fu : Nat) (m : (Nat → Nat → Int32)) (x1 : Int32) (x2 : Int32) (x3 : Int32) (x4 : Int32)  (y3 : Int32), FL_Gu_addHedgehog_52_21 fu m x1 x2 x3 x4 = some y3 → (∀ (u4 : Option Value), q_Ev (qXT Ln xs) d 6 (61, [some (.ref 52), some (.int x1), some (.int x2), some (.int y3), u4], [], qMM m n lm) r) → q_Ev (qXT Ln xs) d 6 (21, [some (.ref 52), some (.int x1), some (.int x2), some (.int x3), some (.int x4)], [], qMM m n lm) r := by
  intro fu
  induction fu with
  | zero => intro m x1 x2 x3 x4 y3 h hk; cases h
  | succ fu ih =>
    intro m x1 x2 x3 x4 y3 h hk
    rw [FL_Gu_addHedgehog_52_21] at h
    refine q_ev_run 1 (S' := (23, [some (.ref 52), some (.int x1), some (.int x2), some (.int x3), some (.int x4)], [.int x4], qMM m n lm)) rfl ?_
    by_cases hc1 : x4 ≤ 0
    · rw [if_pos hc1] at h
      refine q_ev_brT hc1 (a := 61) (b := 26) rfl ?_
      have h_z := Option.some.inj h
      subst h_z
      exact hk (some (.int x4))
    · rw [if_neg hc1] at h
      refine q_ev_brF hc1 (a := 61) (b := 26) rfl ?_
      refine q_ev_run 3 (S' := (32, [some (.ref 52), some (.int x1), some (.int x2), some (.int x3), some (.int x4)], [.int x4, .ref 54], qMM m n lm)) rfl ?_
      obtain ⟨hb2, h⟩ := q_cd h
      refine q_ev_chk (b := q_in x4 256) hb2 (S' := (33, [some (.ref 52), some (.int x1), some (.int x2), some (.int x3), some (.int x4)], [.int (m 54 x4.toNatClampNeg)], qMM m n lm)) rfl ?_
      by_cases hc3 : m 54 x4.toNatClampNeg = 0
      · rw [if_pos hc3] at h
        refine q_ev_brT hc3 (a := 48) (b := 36) rfl ?_
        refine q_ev_run 9 (S' := (21, [some (.ref 52), some (.int x1), some (.int x2), some (.int x3), some (.int (((x4 - 1) &&& x2) &&& x1))], [], qMM m n lm)) rfl ?_
        exact ih m x1 x2 x3 (((x4 - 1) &&& x2) &&& x1) _ h hk
      · rw [if_neg hc3] at h
        refine q_ev_brF hc3 (a := 48) (b := 36) rfl ?_
        refine q_ev_run 6 (S' := (45, [some (.ref 52), some (.int x1), some (.int x2), some (.int x3), some (.int x4)], [.int (x2 ^^^ x4), .ref 55, .int x3], qMM m n lm)) rfl ?_
        obtain ⟨hb4, h⟩ := q_cd h
        refine q_ev_chk (b := q_in (x2 ^^^ x4) 256) hb4 (S' := (46, [some (.ref 52), some (.int x1), some (.int x2), some (.int x3), some (.int x4)], [.int (m 55 ((x2 ^^^ x4)).toNatClampNeg), .int x3], qMM m n lm)) rfl ?_
        refine q_ev_run 11 (S' := (21, [some (.ref 52), some (.int x1), some (.int x2), some (.int (x3 + m 55 ((x2 ^^^ x4)).toNatClampNeg)), some (.int (((x4 - 1) &&& x2) &&& x1))], [], qMM m n lm)) rfl ?_
        exact ih m x1 x2 (x3 + m 55 ((x2 ^^^ x4)).toNatClampNeg) (((x4 - 1) &&& x2) &&& x1) _ h hk
noncomputable def FL_Gu_addHedgehog_52_5 : Nat → (Nat → Nat → Int32) → Int32 → Int32 → Option ((Nat → Nat → Int32))
  | 0, _, _, _ => none
  | fu + 1, m, x1, x2 =>
    if x2 ≤ 0 then
      some (m)
    else
      cond (q_in x2 256) (
        Option.bind (FL_Gu_addHedgehog_52_21 qFU m x1 x2 (m 55 x2.toNatClampNeg) (x2 &&& x1)) (fun y3 =>
          cond (q_in x2 256) (FL_Gu_addHedgehog_52_5 fu (q_w m 55 x2.toNatClampNeg y3) x1 (x2 + (Int32.ofInt (-1)))) none)
       ) none
theorem TL_Gu_addHedgehog_52_5 {Ln : Nat} {xs : Nat → Int32} {n : (Nat → Nat → Int32)} {lm : Nat → Int64} {d : Nat} (hd : 0 ≤ d) {r : Option Value × qM} : ∀ (fu : Nat) (m : (Nat → Nat → Int32)) (x1 : Int32) (x2 : Int32) (w3 : Option Value) (w4 : Option Value) (m1 : (Nat → Nat → Int32)), FL_Gu_addHedgehog_52_5 fu m x1 x2 = some m1 → (∀ (u2 u3 u4 : Option Value), q_Ev (qXT Ln xs) d 6 (74, [some (.ref 52), some (.int x1), u2, u3, u4], [], qMM m1 n lm) r) → q_Ev (qXT Ln xs) d 6 (5, [some (.ref 52), some (.int x1), some (.int x2), w3, w4], [], qMM m n lm) r := by
  intro fu
  induction fu with
  | zero => intro m x1 x2 w3 w4 m1 h hk; cases h
  | succ fu ih =>
    intro m x1 x2 w3 w4 m1 h hk
    rw [FL_Gu_addHedgehog_52_5] at h
    refine q_ev_run 1 (S' := (6, [some (.ref 52), some (.int x1), some (.int x2), w3, w4], [.int x2], qMM m n lm)) rfl ?_
    by_cases hc1 : x2 ≤ 0
    · rw [if_pos hc1] at h
      refine q_ev_brT hc1 (a := 74) (b := 9) rfl ?_
      have h_z := Option.some.inj h
      subst h_z
      exact hk (some (.int x2)) (w3) (w4)
    · rw [if_neg hc1] at h
      refine q_ev_brF hc1 (a := 74) (b := 9) rfl ?_
      refine q_ev_run 3 (S' := (14, [some (.ref 52), some (.int x1), some (.int x2), w3, w4], [.int x2, .ref 55], qMM m n lm)) rfl ?_
      obtain ⟨hb2, h⟩ := q_cd h
      refine q_ev_chk (b := q_in x2 256) hb2 (S' := (15, [some (.ref 52), some (.int x1), some (.int x2), w3, w4], [.int (m 55 x2.toNatClampNeg)], qMM m n lm)) rfl ?_
      refine q_ev_run 5 (S' := (21, [some (.ref 52), some (.int x1), some (.int x2), some (.int (m 55 x2.toNatClampNeg)), some (.int (x2 &&& x1))], [], qMM m n lm)) rfl ?_
      obtain ⟨y3, hl5, h⟩ := Option.bind_eq_some_iff.mp h
      try dsimp only at h
      refine TL_Gu_addHedgehog_52_21 (by first | omega | decide) _ m x1 x2 (m 55 x2.toNatClampNeg) (x2 &&& x1) _ hl5 (fun w4 => ?_)
      refine q_ev_run 4 (S' := (67, [some (.ref 52), some (.int x1), some (.int x2), some (.int y3), w4], [.int y3, .int x2, .ref 55], qMM m n lm)) rfl ?_
      obtain ⟨hb6, h⟩ := q_cd h
      refine q_ev_chk (b := q_in x2 256) hb6 (S' := (68, [some (.ref 52), some (.int x1), some (.int x2), some (.int y3), w4], [], qMM (q_w m 55 x2.toNatClampNeg y3) n lm)) rfl ?_
      refine q_ev_run 2 (S' := (5, [some (.ref 52), some (.int x1), some (.int (x2 + (Int32.ofInt (-1)))), some (.int y3), w4], [], qMM (q_w m 55 x2.toNatClampNeg y3) n lm)) rfl ?_
      exact ih (q_w m 55 x2.toNatClampNeg y3) x1 (x2 + (Int32.ofInt (-1))) (some (.int y3)) (w4) _ h hk
noncomputable def F_Gu_addHedgehog_52 (m : (Nat → Nat → Int32)) (a1 : Int32) : Option ((Nat → Nat → Int32)) :=
  Option.bind (FL_Gu_addHedgehog_52_5 qFU m a1 (m 52 1)) (fun m4 =>
    some (m4))
theorem T_Gu_addHedgehog_52 {Ln : Nat} {xs : Nat → Int32} {n : (Nat → Nat → Int32)} {lm : Nat → Int64} {d : Nat} (hd : 0 ≤ d) {m : (Nat → Nat → Int32)} {a1 : Int32} {m1 : (Nat → Nat → Int32)} (h : F_Gu_addHedgehog_52 m a1 = some m1) : q_Ev (qXT Ln xs) d 6 (0, [some (.ref 52), some (.int a1), none, none, none], [], qMM m n lm) (none, qMM m1 n lm) := by
  unfold F_Gu_addHedgehog_52 at h
  refine q_ev_run 3 (S' := (5, [some (.ref 52), some (.int a1), some (.int (m 52 1)), none, none], [], qMM m n lm)) rfl ?_
  obtain ⟨m4, hl5, h⟩ := Option.bind_eq_some_iff.mp h
  try dsimp only at h
  refine TL_Gu_addHedgehog_52_5 (by first | omega | decide) _ m a1 (m 52 1) (none) (none) _ hl5 (fun w1 w2 w3 => ?_)
  have h_z := Option.some.inj h
  subst h_z
  exact q_ev_ret rfl rfl
