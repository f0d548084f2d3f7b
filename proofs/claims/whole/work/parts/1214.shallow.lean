noncomputable def FL_Mo_ways_144 : Nat → (Nat → Nat → Int32) → Int32 → Int32 → Int32 → Option ((Nat → Nat → Int32))
  | 0, _, _, _, _ => none
  | fu + 1, m, x1, x2, x3 =>
    if m 56 17 ≤ x3 then
      some (m)
    else
      cond (q_in x3 8) (cond (q_in x3 8) (cond (q_in x3 8) (FL_Mo_ways_144 fu (q_w m 69 x3.toNatClampNeg (m 69 x3.toNatClampNeg ||| ((1 : Int32) <<< (m 67 x3.toNatClampNeg &&& 31)))) x1 x2 (x3 + 1)) none) none) none
theorem TL_Mo_ways_144 {Ln : Nat} {xs : Nat → Int32} {n : (Nat → Nat → Int32)} {lm : Nat → Int64} {d : Nat} (hd : 0 ≤ d) {r : Option Value × qM} : ∀ (fu : Nat) (m : (Nat → Nat → Int32)) (x1 : Int32) (x2 : Int32) (x3 : Int32)  (m1 : (Nat → Nat → Int32)), FL_Mo_ways_144 fu m x1 x2 x3 = some m1 → (∀ (u3 : Option Value), q_Ev (qXT Ln xs) d 158 (175, [some (.ref 58), some (.int x1), some (.int x2), u3], [], qMM n m1 lm) r) → q_Ev (qXT Ln xs) d 158 (144, [some (.ref 58), some (.int x1), some (.int x2), some (.int x3)], [], qMM n m lm) r := by
  intro fu
  induction fu with
  | zero => intro m x1 x2 x3 m1 h hk; cases h
  | succ fu ih =>
    intro m x1 x2 x3 m1 h hk
    rw [FL_Mo_ways_144] at h
    refine q_ev_run 3 (S' := (149, [some (.ref 58), some (.int x1), some (.int x2), some (.int x3)], [.int (m 56 17), .int x3], qMM n m lm)) rfl ?_
    by_cases hc1 : m 56 17 ≤ x3
    · rw [if_pos hc1] at h
      refine q_ev_brT hc1 (a := 175) (b := 152) rfl ?_
      have h_z0 := Option.some.inj h
      subst h_z0
      exact hk (some (.int x3))
    · rw [if_neg hc1] at h
      refine q_ev_brF hc1 (a := 175) (b := 152) rfl ?_
      refine q_ev_run 4 (S' := (158, [some (.ref 58), some (.int x1), some (.int x2), some (.int x3)], [.int x3, .ref 71, .int x3, .ref 71], qMM n m lm)) rfl ?_
      obtain ⟨hb2, h⟩ := q_cd h
      refine q_ev_chk (b := q_in x3 8) hb2 (S' := (159, [some (.ref 58), some (.int x1), some (.int x2), some (.int x3)], [.int (m 69 x3.toNatClampNeg), .int x3, .ref 71], qMM n m lm)) rfl ?_
      refine q_ev_run 4 (S' := (165, [some (.ref 58), some (.int x1), some (.int x2), some (.int x3)], [.int x3, .ref 69, .int 1, .int (m 69 x3.toNatClampNeg), .int x3, .ref 71], qMM n m lm)) rfl ?_
      obtain ⟨hb3, h⟩ := q_cd h
      refine q_ev_chk (b := q_in x3 8) hb3 (S' := (166, [some (.ref 58), some (.int x1), some (.int x2), some (.int x3)], [.int (m 67 x3.toNatClampNeg), .int 1, .int (m 69 x3.toNatClampNeg), .int x3, .ref 71], qMM n m lm)) rfl ?_
      refine q_ev_run 2 (S' := (168, [some (.ref 58), some (.int x1), some (.int x2), some (.int x3)], [.int (m 69 x3.toNatClampNeg ||| ((1 : Int32) <<< (m 67 x3.toNatClampNeg &&& 31))), .int x3, .ref 71], qMM n m lm)) rfl ?_
      obtain ⟨hb4, h⟩ := q_cd h
      refine q_ev_chk (b := q_in x3 8) hb4 (S' := (169, [some (.ref 58), some (.int x1), some (.int x2), some (.int x3)], [], qMM n (q_w m 69 x3.toNatClampNeg (m 69 x3.toNatClampNeg ||| ((1 : Int32) <<< (m 67 x3.toNatClampNeg &&& 31)))) lm)) rfl ?_
      refine q_ev_run 2 (S' := (144, [some (.ref 58), some (.int x1), some (.int x2), some (.int (x3 + 1))], [], qMM n (q_w m 69 x3.toNatClampNeg (m 69 x3.toNatClampNeg ||| ((1 : Int32) <<< (m 67 x3.toNatClampNeg &&& 31)))) lm)) rfl ?_
      exact ih (q_w m 69 x3.toNatClampNeg (m 69 x3.toNatClampNeg ||| ((1 : Int32) <<< (m 67 x3.toNatClampNeg &&& 31)))) x1 x2 (x3 + 1) _ h hk
noncomputable def FL_Mo_ways_45 : Nat → (Nat → Nat → Int32) → Int32 → Int32 → Option (Int32 × (Nat → Nat → Int32))
  | 0, _, _, _ => none
  | fu + 1, m, x1, x2 =>
    if x2 < 0 then
      some (x1, m)
    else
      cond (q_in x2 8) (
        cond (q_in x2 8) (
          Option.bind (FL_Mo_ways_59 qFU (q_w m 67 x2.toNatClampNeg (m 67 x2.toNatClampNeg + 1)) x1 x2) (fun m5 =>
            cond (q_in x2 8) (
              if m5 67 x2.toNatClampNeg = m5 58 1 then
                cond (q_in x2 8) (FL_Mo_ways_45 fu (q_w m5 67 x2.toNatClampNeg (Int32.ofInt (-1))) x1 (x2 + (Int32.ofInt (-1)))) none
              else
                if m5 56 17 ≤ (x2 + 1) then
                  Option.bind (FL_Mo_ways_144 qFU m5 (x1 + 1) x2 0) (fun m12 =>
                    FL_Mo_ways_45 fu m12 (x1 + 1) x2)
                else
                  FL_Mo_ways_45 fu m5 x1 (x2 + 1)
             ) none)
         ) none
       ) none
theorem TL_Mo_ways_45 {Ln : Nat} {xs : Nat → Int32} {n : (Nat → Nat → Int32)} {lm : Nat → Int64} {d : Nat} (hd : 3 ≤ d) {r : Option Value × qM} : ∀ (fu : Nat) (m : (Nat → Nat → Int32)) (x1 : Int32) (x2 : Int32) (w3 : Option Value) (y1 : Int32) (m1 : (Nat → Nat → Int32)), FL_Mo_ways_45 fu m x1 x2 = some (y1, m1) → (∀ (u2 u3 : Option Value), q_Ev (qXT Ln xs) d 158 (178, [some (.ref 58), some (.int y1), u2, u3], [], qMM n m1 lm) r) → q_Ev (qXT Ln xs) d 158 (45, [some (.ref 58), some (.int x1), some (.int x2), w3], [], qMM n m lm) r := by
  intro fu
  induction fu with
  | zero => intro m x1 x2 w3 y1 m1 h hk; cases h
  | succ fu ih =>
    intro m x1 x2 w3 y1 m1 h hk
    rw [FL_Mo_ways_45] at h
    refine q_ev_run 1 (S' := (46, [some (.ref 58), some (.int x1), some (.int x2), w3], [.int x2], qMM n m lm)) rfl ?_
    by_cases hc1 : x2 < 0
    · rw [if_pos hc1] at h
      refine q_ev_brT hc1 (a := 178) (b := 49) rfl ?_
      have h_z0 := Option.some.inj h
      obtain ⟨h_0, h_z1⟩ := Prod.mk.inj h_z0
      subst h_0
      subst h_z1
      exact hk (some (.int x2)) (w3)
    · rw [if_neg hc1] at h
      refine q_ev_brF hc1 (a := 178) (b := 49) rfl ?_
      refine q_ev_run 4 (S' := (55, [some (.ref 58), some (.int x1), some (.int x2), w3], [.int x2, .ref 69, .int x2, .ref 69], qMM n m lm)) rfl ?_
      obtain ⟨hb2, h⟩ := q_cd h
      refine q_ev_chk (b := q_in x2 8) hb2 (S' := (56, [some (.ref 58), some (.int x1), some (.int x2), w3], [.int (m 67 x2.toNatClampNeg), .int x2, .ref 69], qMM n m lm)) rfl ?_
      refine q_ev_run 2 (S' := (58, [some (.ref 58), some (.int x1), some (.int x2), w3], [.int (m 67 x2.toNatClampNeg + 1), .int x2, .ref 69], qMM n m lm)) rfl ?_
      obtain ⟨hb3, h⟩ := q_cd h
      refine q_ev_chk (b := q_in x2 8) hb3 (S' := (59, [some (.ref 58), some (.int x1), some (.int x2), w3], [], qMM n (q_w m 67 x2.toNatClampNeg (m 67 x2.toNatClampNeg + 1)) lm)) rfl ?_
      obtain ⟨m5, hl6, h⟩ := Option.bind_eq_some_iff.mp h
      try dsimp only at h
      refine TL_Mo_ways_59 (by first | omega | decide) _ (q_w m 67 x2.toNatClampNeg (m 67 x2.toNatClampNeg + 1)) x1 x2 (w3) _ hl6 (fun w4 => ?_)
      refine q_ev_run 3 (S' := (100, [some (.ref 58), some (.int x1), some (.int x2), w4], [.int x2, .ref 69], qMM n m5 lm)) rfl ?_
      obtain ⟨hb7, h⟩ := q_cd h
      refine q_ev_chk (b := q_in x2 8) hb7 (S' := (101, [some (.ref 58), some (.int x1), some (.int x2), w4], [.int (m5 67 x2.toNatClampNeg)], qMM n m5 lm)) rfl ?_
      refine q_ev_run 4 (S' := (107, [some (.ref 58), some (.int x1), some (.int x2), w4], [.int (m5 58 1), .int (m5 67 x2.toNatClampNeg)], qMM n m5 lm)) rfl ?_
      by_cases hc8 : m5 67 x2.toNatClampNeg = m5 58 1
      · rw [if_pos hc8] at h
        refine q_ev_brT hc8 (a := 110) (b := 123) rfl ?_
        refine q_ev_run 4 (S' := (116, [some (.ref 58), some (.int x1), some (.int x2), w4], [.int (Int32.ofInt (-1)), .int x2, .ref 69], qMM n m5 lm)) rfl ?_
        obtain ⟨hb9, h⟩ := q_cd h
        refine q_ev_chk (b := q_in x2 8) hb9 (S' := (117, [some (.ref 58), some (.int x1), some (.int x2), w4], [], qMM n (q_w m5 67 x2.toNatClampNeg (Int32.ofInt (-1))) lm)) rfl ?_
        refine q_ev_run 2 (S' := (45, [some (.ref 58), some (.int x1), some (.int (x2 + (Int32.ofInt (-1)))), w4], [], qMM n (q_w m5 67 x2.toNatClampNeg (Int32.ofInt (-1))) lm)) rfl ?_
        exact ih (q_w m5 67 x2.toNatClampNeg (Int32.ofInt (-1))) x1 (x2 + (Int32.ofInt (-1))) (w4) _ _ h hk
      · rw [if_neg hc8] at h
        refine q_ev_brF hc8 (a := 110) (b := 123) rfl ?_
        refine q_ev_run 5 (S' := (130, [some (.ref 58), some (.int x1), some (.int x2), w4], [.int (m5 56 17), .int (x2 + 1)], qMM n m5 lm)) rfl ?_
        by_cases hc10 : m5 56 17 ≤ (x2 + 1)
        · rw [if_pos hc10] at h
          refine q_ev_brT hc10 (a := 139) (b := 133) rfl ?_
          refine q_ev_run 3 (S' := (144, [some (.ref 58), some (.int (x1 + 1)), some (.int x2), some (.int 0)], [], qMM n m5 lm)) rfl ?_
          obtain ⟨m12, hl13, h⟩ := Option.bind_eq_some_iff.mp h
          try dsimp only at h
          refine TL_Mo_ways_144 (by first | omega | decide) _ m5 (x1 + 1) x2 0 _ hl13 (fun w11 => ?_)
          refine q_ev_run 1 (S' := (45, [some (.ref 58), some (.int (x1 + 1)), some (.int x2), w11], [], qMM n m12 lm)) rfl ?_
          exact ih m12 (x1 + 1) x2 (w11) _ _ h hk
        · rw [if_neg hc10] at h
          refine q_ev_brF hc10 (a := 139) (b := 133) rfl ?_
          refine q_ev_run 2 (S' := (45, [some (.ref 58), some (.int x1), some (.int (x2 + 1)), w4], [], qMM n m5 lm)) rfl ?_
          exact ih m5 x1 (x2 + 1) (w4) _ _ h hk
noncomputable def F_Mo_ways (m : (Nat → Nat → Int32)) : Option (Int32 × (Nat → Nat → Int32)) :=
  Option.bind (F_Mo_lays m) (fun m1 =>
    Option.bind (FL_Mo_ways_6 qFU m1 0) (fun m6 =>
      if m6 56 17 = 0 then
        some (1, m6)
      else
        Option.bind (FL_Mo_ways_45 qFU m6 0 0) (fun (y9, m12) =>
          some (y9, m12))))
theorem T_Mo_ways {Ln : Nat} {xs : Nat → Int32} {n : (Nat → Nat → Int32)} {lm : Nat → Int64} {d : Nat} (hd : 3 ≤ d) {m : (Nat → Nat → Int32)} {rv : Int32} {m1 : (Nat → Nat → Int32)} (h : F_Mo_ways m = some (rv, m1)) : q_Ev (qXT Ln xs) d 158 (0, [some (.ref 58), none, none, none], [], qMM n m lm) (some (.int rv), qMM n m1 lm) := by
  unfold F_Mo_ways at h
  refine q_ev_run 1 (S' := (1, [some (.ref 58), none, none, none], [.ref 58], qMM n m lm)) rfl ?_
  obtain ⟨m1, hf2, h⟩ := Option.bind_eq_some_iff.mp h
  try dsimp only at h
  refine q_ev_call (S' := (4, [some (.ref 58), none, none, none], [], qMM n m lm)) rfl (by omega) (T_Mo_lays (by first | omega | decide) hf2) ?_
  refine q_ev_eq (S' := (4, [some (.ref 58), none, none, none], [], qMM n m1 lm)) rfl ?_
  refine q_ev_run 2 (S' := (6, [some (.ref 58), some (.int 0), none, none], [], qMM n m1 lm)) rfl ?_
  obtain ⟨m6, hl7, h⟩ := Option.bind_eq_some_iff.mp h
  try dsimp only at h
  refine TL_Mo_ways_6 (by first | omega | decide) _ m1 0 (none) (none) _ hl7 (fun w3 w4 w5 => ?_)
  refine q_ev_run 2 (S' := (36, [some (.ref 58), w3, w4, w5], [.int (m6 56 17)], qMM n m6 lm)) rfl ?_
  by_cases hc8 : m6 56 17 = 0
  · rw [if_pos hc8] at h
    refine q_ev_brT hc8 (a := 39) (b := 41) rfl ?_
    refine q_ev_run 1 (S' := (40, [some (.ref 58), w3, w4, w5], [.int 1], qMM n m6 lm)) rfl ?_
    have h_z0 := Option.some.inj h
    obtain ⟨h_0, h_z1⟩ := Prod.mk.inj h_z0
    subst h_0
    subst h_z1
    exact q_ev_ret rfl rfl
  · rw [if_neg hc8] at h
    refine q_ev_brF hc8 (a := 39) (b := 41) rfl ?_
    refine q_ev_run 4 (S' := (45, [some (.ref 58), some (.int 0), some (.int 0), w5], [], qMM n m6 lm)) rfl ?_
    obtain ⟨⟨y9, m12⟩, hl13, h⟩ := Option.bind_eq_some_iff.mp h
    try dsimp only at h
    refine TL_Mo_ways_45 (by first | omega | decide) _ m6 0 0 (w5) _ _ hl13 (fun w10 w11 => ?_)
    refine q_ev_run 1 (S' := (179, [some (.ref 58), some (.int y9), w10, w11], [.int y9], qMM n m12 lm)) rfl ?_
    have h_z0 := Option.some.inj h
    obtain ⟨h_0, h_z1⟩ := Prod.mk.inj h_z0
    subst h_0
    subst h_z1
    exact q_ev_ret rfl rfl
noncomputable def F_Mo_fits (m : (Nat → Nat → Int32)) : Option (Int32 × (Nat → Nat → Int32)) :=
  Option.bind (F_Mo_ways m) (fun (r1, m2) =>
    some (r1, m2))
theorem T_Mo_fits {Ln : Nat} {xs : Nat → Int32} {n : (Nat → Nat → Int32)} {lm : Nat → Int64} {d : Nat} (hd : 4 ≤ d) {m : (Nat → Nat → Int32)} {rv : Int32} {m1 : (Nat → Nat → Int32)} (h : F_Mo_fits m = some (rv, m1)) : q_Ev (qXT Ln xs) d 160 (0, [some (.ref 58)], [], qMM n m lm) (some (.int rv), qMM n m1 lm) := by
  unfold F_Mo_fits at h
  refine q_ev_run 1 (S' := (1, [some (.ref 58)], [.ref 58], qMM n m lm)) rfl ?_
  obtain ⟨⟨r1, m2⟩, hf3, h⟩ := Option.bind_eq_some_iff.mp h
  try dsimp only at h
  refine q_ev_call (S' := (4, [some (.ref 58)], [], qMM n m lm)) rfl (by omega) (T_Mo_ways (by first | omega | decide) hf3) ?_
  refine q_ev_eq (S' := (4, [some (.ref 58)], [.int r1], qMM n m2 lm)) rfl ?_
  have h_z0 := Option.some.inj h
  obtain ⟨h_0, h_z1⟩ := Prod.mk.inj h_z0
  subst h_0
  subst h_z1
  exact q_ev_ret rfl rfl
noncomputable def FL_Gu_alwaysAt_52_5 : Nat → (Nat → Nat → Int32) → Int32 → Int32 → Int32 → Option ((Int32 × (Nat → Nat → Int32)) ⊕ (Int32 × (Nat → Nat → Int32)))
  | 0, _, _, _, _ => none
  | fu + 1, m, x1, x2, x3 =>
    if m 52 0 ≤ x3 then
      some (.inr (x2, m))
    else
      Option.bind (F_Gu_waysKeeping_52 m ((1 : Int32) <<< (x1 &&& 31)) x3) (fun (r2, m3) =>
        if r2 ≤ 0 then
          FL_Gu_alwaysAt_52_5 fu m3 x1 x2 (x3 + 1)
        else
          if x2 = (Int32.ofInt (-9)) then
            FL_Gu_alwaysAt_52_5 fu m3 x1 x3 (x3 + 1)
          else
            some (.inl ((Int32.ofInt (-5)), m3)))
theorem TL_Gu_alwaysAt_52_5 {Ln : Nat} {xs : Nat → Int32} {n : (Nat → Nat → Int32)} {lm : Nat → Int64} {d : Nat} (hd : 2 ≤ d) {r : Option Value × qM} : ∀ (fu : Nat) (m : (Nat → Nat → Int32)) (x1 : Int32) (x2 : Int32) (x3 : Int32)  (o : (Int32 × (Nat → Nat → Int32)) ⊕ (Int32 × (Nat → Nat → Int32))), FL_Gu_alwaysAt_52_5 fu m x1 x2 x3 = some o → (∀ (rv : Int32) (m1 : (Nat → Nat → Int32)), o = .inl (rv, m1) → r = (some (.int rv), qMM m1 n lm)) → (∀ (y2 : Int32) (m1 : (Nat → Nat → Int32)), o = .inr (y2, m1) → ∀ (u3 : Option Value), q_Ev (qXT Ln xs) d 4 (41, [some (.ref 54), some (.int x1), some (.int y2), u3], [], qMM m1 n lm) r) → q_Ev (qXT Ln xs) d 4 (5, [some (.ref 54), some (.int x1), some (.int x2), some (.int x3)], [], qMM m n lm) r := by
  intro fu
  induction fu with
  | zero => intro m x1 x2 x3 o h hr hk; cases h
  | succ fu ih =>
    intro m x1 x2 x3 o h hr hk
    rw [FL_Gu_alwaysAt_52_5] at h
    refine q_ev_run 3 (S' := (10, [some (.ref 54), some (.int x1), some (.int x2), some (.int x3)], [.int (m 52 0), .int x3], qMM m n lm)) rfl ?_
    by_cases hc1 : m 52 0 ≤ x3
    · rw [if_pos hc1] at h
      refine q_ev_brT hc1 (a := 41) (b := 13) rfl ?_
      obtain rfl := (Option.some.inj h).symm
      exact hk _ _ rfl (some (.int x3))
    · rw [if_neg hc1] at h
      refine q_ev_brF hc1 (a := 41) (b := 13) rfl ?_
      refine q_ev_run 5 (S' := (18, [some (.ref 54), some (.int x1), some (.int x2), some (.int x3)], [.int x3, .int ((1 : Int32) <<< (x1 &&& 31)), .ref 54], qMM m n lm)) rfl ?_
      obtain ⟨⟨r2, m3⟩, hf4, h⟩ := Option.bind_eq_some_iff.mp h
      try dsimp only at h
      refine q_ev_call (S' := (21, [some (.ref 54), some (.int x1), some (.int x2), some (.int x3)], [], qMM m n lm)) rfl (by omega) (T_Gu_waysKeeping_52 (by first | omega | decide) hf4) ?_
      refine q_ev_eq (S' := (21, [some (.ref 54), some (.int x1), some (.int x2), some (.int x3)], [.int r2], qMM m3 n lm)) rfl ?_
      by_cases hc5 : r2 ≤ 0
      · rw [if_pos hc5] at h
        refine q_ev_brT hc5 (a := 35) (b := 24) rfl ?_
        refine q_ev_run 2 (S' := (5, [some (.ref 54), some (.int x1), some (.int x2), some (.int (x3 + 1))], [], qMM m3 n lm)) rfl ?_
        exact ih m3 x1 x2 (x3 + 1) _ h hr hk
      · rw [if_neg hc5] at h
        refine q_ev_brF hc5 (a := 35) (b := 24) rfl ?_
        refine q_ev_run 2 (S' := (27, [some (.ref 54), some (.int x1), some (.int x2), some (.int x3)], [.int (Int32.ofInt (-9)), .int x2], qMM m3 n lm)) rfl ?_
        by_cases hc6 : x2 = (Int32.ofInt (-9))
        · rw [if_pos hc6] at h
          refine q_ev_brT hc6 (a := 33) (b := 30) rfl ?_
          refine q_ev_run 4 (S' := (5, [some (.ref 54), some (.int x1), some (.int x3), some (.int (x3 + 1))], [], qMM m3 n lm)) rfl ?_
          exact ih m3 x1 x3 (x3 + 1) _ h hr hk
        · rw [if_neg hc6] at h
          refine q_ev_brF hc6 (a := 33) (b := 30) rfl ?_
          refine q_ev_run 1 (S' := (32, [some (.ref 54), some (.int x1), some (.int x2), some (.int x3)], [.int (Int32.ofInt (-5))], qMM m3 n lm)) rfl ?_
          obtain rfl := (Option.some.inj h).symm
          rw [hr _ _ rfl]
          exact q_ev_ret rfl rfl
noncomputable def F_Gu_alwaysAt_52 (m : (Nat → Nat → Int32)) (a1 : Int32) : Option (Int32 × (Nat → Nat → Int32)) :=
  Option.bind (FL_Gu_alwaysAt_52_5 qFU m a1 (Int32.ofInt (-9)) 0) (fun o5 => match o5 with
    | .inl (v0, v1) => some (v0, v1)
    | .inr (y1, m3) =>
      some (y1, m3))
theorem T_Gu_alwaysAt_52 {Ln : Nat} {xs : Nat → Int32} {n : (Nat → Nat → Int32)} {lm : Nat → Int64} {d : Nat} (hd : 2 ≤ d) {m : (Nat → Nat → Int32)} {a1 : Int32} {rv : Int32} {m1 : (Nat → Nat → Int32)} (h : F_Gu_alwaysAt_52 m a1 = some (rv, m1)) : q_Ev (qXT Ln xs) d 4 (0, [some (.ref 54), some (.int a1), none, none], [], qMM m n lm) (some (.int rv), qMM m1 n lm) := by
  unfold F_Gu_alwaysAt_52 at h
  refine q_ev_run 4 (S' := (5, [some (.ref 54), some (.int a1), some (.int (Int32.ofInt (-9))), some (.int 0)], [], qMM m n lm)) rfl ?_
  obtain ⟨o5, hl4, h⟩ := Option.bind_eq_some_iff.mp h
  rcases o5 with ⟨v0, v1⟩ | ⟨y1, m3⟩
  · have h_z0 := Option.some.inj h
    obtain ⟨h_0, h_z1⟩ := Prod.mk.inj h_z0
    subst h_0
    subst h_z1
    exact TL_Gu_alwaysAt_52_5 (by first | omega | decide) _ m a1 (Int32.ofInt (-9)) 0 _ hl4 (fun _ _ hh => by cases hh; rfl) (fun _ _ hh => by cases hh)
  · refine TL_Gu_alwaysAt_52_5 (by first | omega | decide) _ m a1 (Int32.ofInt (-9)) 0 _ hl4 (fun _ _ hh => by cases hh) (fun _ _ hh w2 => ?_)
    cases hh
    try dsimp only at h
    refine q_ev_run 1 (S' := (42, [some (.ref 54), some (.int a1), some (.int y1), w2], [.int y1], qMM m3 n lm)) rfl ?_
    have h_z0 := Option.some.inj h
    obtain ⟨h_0, h_z1⟩ := Prod.mk.inj h_z0
    subst h_0
    subst h_z1
    exact q_ev_ret rfl rfl
noncomputable def F_AT_sure (m : (Nat → Nat → Int32)) (a1 : Int32) : Option (Int32 × (Nat → Nat → Int32)) :=
  Option.bind (F_Ru_hasPoint_39 m a1) (fun r1 =>
    if r1 = 0 then
      some ((Int32.ofInt (-1)), m)
    else
      Option.bind (F_Gu_prepare_52_9_39_21 m) (fun m4 =>
        Option.bind (F_Gu_alwaysAt_52 m4 a1) (fun (r6, m7) =>
          some (r6, m7))))
theorem T_AT_sure {Ln : Nat} {xs : Nat → Int32} {n : (Nat → Nat → Int32)} {lm : Nat → Int64} {d : Nat} (hd : 3 ≤ d) {m : (Nat → Nat → Int32)} {a1 : Int32} {rv : Int32} {m1 : (Nat → Nat → Int32)} (h : F_AT_sure m a1 = some (rv, m1)) : q_Ev (qXT Ln xs) d 87 (0, [some (.ref 0), some (.int a1)], [], qMM m n lm) (some (.int rv), qMM m1 n lm) := by
  unfold F_AT_sure at h
  refine q_ev_run 3 (S' := (5, [some (.ref 0), some (.int a1)], [.int a1, .ref 41], qMM m n lm)) rfl ?_
  obtain ⟨r1, hf2, h⟩ := Option.bind_eq_some_iff.mp h
  try dsimp only at h
  refine q_ev_call (S' := (8, [some (.ref 0), some (.int a1)], [], qMM m n lm)) rfl (by omega) (T_Ru_hasPoint_39 (by first | omega | decide) hf2) ?_
  refine q_ev_eq (S' := (8, [some (.ref 0), some (.int a1)], [.int r1], qMM m n lm)) rfl ?_
  by_cases hc3 : r1 = 0
  · rw [if_pos hc3] at h
    refine q_ev_brT hc3 (a := 11) (b := 13) rfl ?_
    refine q_ev_run 1 (S' := (12, [some (.ref 0), some (.int a1)], [.int (Int32.ofInt (-1))], qMM m n lm)) rfl ?_
    have h_z0 := Option.some.inj h
    obtain ⟨h_0, h_z1⟩ := Prod.mk.inj h_z0
    subst h_0
    subst h_z1
    exact q_ev_ret rfl rfl
  · rw [if_neg hc3] at h
    refine q_ev_brF hc3 (a := 11) (b := 13) rfl ?_
    refine q_ev_run 9 (S' := (32, [some (.ref 0), some (.int a1)], [.ref 23, .ref 41, .ref 11, .ref 54], qMM m n lm)) rfl ?_
    obtain ⟨m4, hf5, h⟩ := Option.bind_eq_some_iff.mp h
    try dsimp only at h
    refine q_ev_call (S' := (35, [some (.ref 0), some (.int a1)], [], qMM m n lm)) rfl (by omega) (T_Gu_prepare_52_9_39_21 (by first | omega | decide) hf5) ?_
    refine q_ev_eq (S' := (35, [some (.ref 0), some (.int a1)], [], qMM m4 n lm)) rfl ?_
    refine q_ev_run 3 (S' := (40, [some (.ref 0), some (.int a1)], [.int a1, .ref 54], qMM m4 n lm)) rfl ?_
    obtain ⟨⟨r6, m7⟩, hf8, h⟩ := Option.bind_eq_some_iff.mp h
    try dsimp only at h
    refine q_ev_call (S' := (43, [some (.ref 0), some (.int a1)], [], qMM m4 n lm)) rfl (by omega) (T_Gu_alwaysAt_52 (by first | omega | decide) hf8) ?_
    refine q_ev_eq (S' := (43, [some (.ref 0), some (.int a1)], [.int r6], qMM m7 n lm)) rfl ?_
    have h_z0 := Option.some.inj h
    obtain ⟨h_0, h_z1⟩ := Prod.mk.inj h_z0
    subst h_0
    subst h_z1
    exact q_ev_ret rfl rfl
noncomputable def FL_Mo_sure_25 : Nat → (Nat → Nat → Int32) → Int32 → Int32 → Int32 → Option (Int32)
  | 0, _, _, _, _ => none
  | fu + 1, m, x1, x2, x3 =>
    if 5 ≤ x3 then
      some (x2)
    else
      cond (q_in x1 8) (
        if m 69 x1.toNatClampNeg = ((1 : Int32) <<< (x3 &&& 31)) then
          FL_Mo_sure_25 fu m x1 x3 (x3 + 1)
        else
          FL_Mo_sure_25 fu m x1 x2 (x3 + 1)
       ) none
theorem TL_Mo_sure_25 {Ln : Nat} {xs : Nat → Int32} {n : (Nat → Nat → Int32)} {lm : Nat → Int64} {d : Nat} (hd : 0 ≤ d) {r : Option Value × qM} : ∀ (fu : Nat) (m : (Nat → Nat → Int32)) (x1 : Int32) (x2 : Int32) (x3 : Int32)  (y2 : Int32), FL_Mo_sure_25 fu m x1 x2 x3 = some y2 → (∀ (u3 : Option Value), q_Ev (qXT Ln xs) d 161 (54, [some (.ref 58), some (.int x1), some (.int y2), u3], [], qMM n m lm) r) → q_Ev (qXT Ln xs) d 161 (25, [some (.ref 58), some (.int x1), some (.int x2), some (.int x3)], [], qMM n m lm) r := by
  intro fu
  induction fu with
  | zero => intro m x1 x2 x3 y2 h hk; cases h
  | succ fu ih =>
    intro m x1 x2 x3 y2 h hk
    rw [FL_Mo_sure_25] at h
    refine q_ev_run 2 (S' := (27, [some (.ref 58), some (.int x1), some (.int x2), some (.int x3)], [.int 5, .int x3], qMM n m lm)) rfl ?_
    by_cases hc1 : 5 ≤ x3
    · rw [if_pos hc1] at h
      refine q_ev_brT hc1 (a := 54) (b := 30) rfl ?_
      have h_z0 := Option.some.inj h
      subst h_z0
      exact hk (some (.int x3))
    · rw [if_neg hc1] at h
      refine q_ev_brF hc1 (a := 54) (b := 30) rfl ?_
      refine q_ev_run 3 (S' := (35, [some (.ref 58), some (.int x1), some (.int x2), some (.int x3)], [.int x1, .ref 71], qMM n m lm)) rfl ?_
      obtain ⟨hb2, h⟩ := q_cd h
      refine q_ev_chk (b := q_in x1 8) hb2 (S' := (36, [some (.ref 58), some (.int x1), some (.int x2), some (.int x3)], [.int (m 69 x1.toNatClampNeg)], qMM n m lm)) rfl ?_
      refine q_ev_run 3 (S' := (39, [some (.ref 58), some (.int x1), some (.int x2), some (.int x3)], [.int ((1 : Int32) <<< (x3 &&& 31)), .int (m 69 x1.toNatClampNeg)], qMM n m lm)) rfl ?_
      by_cases hc3 : m 69 x1.toNatClampNeg = ((1 : Int32) <<< (x3 &&& 31))
      · rw [if_pos hc3] at h
        refine q_ev_brT hc3 (a := 42) (b := 46) rfl ?_
        refine q_ev_run 5 (S' := (25, [some (.ref 58), some (.int x1), some (.int x3), some (.int (x3 + 1))], [], qMM n m lm)) rfl ?_
        exact ih m x1 x3 (x3 + 1) _ h hk
      · rw [if_neg hc3] at h
        refine q_ev_brF hc3 (a := 42) (b := 46) rfl ?_
        refine q_ev_run 4 (S' := (25, [some (.ref 58), some (.int x1), some (.int x2), some (.int (x3 + 1))], [], qMM n m lm)) rfl ?_
        exact ih m x1 x2 (x3 + 1) _ h hk
noncomputable def F_Mo_sure (m : (Nat → Nat → Int32)) (a1 : Int32) : Option (Int32 × (Nat → Nat → Int32)) :=
  Option.bind (F_Mo_isPoint m a1) (fun r1 =>
    if r1 = 0 then
      some ((Int32.ofInt (-1)), m)
    else
      Option.bind (F_Mo_ways m) (fun (r4, m5) =>
        if r4 = 0 then
          some ((Int32.ofInt (-9)), m5)
        else
          Option.bind (FL_Mo_sure_25 qFU m5 a1 (Int32.ofInt (-5)) 0) (fun y8 =>
            some (y8, m5))))
theorem T_Mo_sure {Ln : Nat} {xs : Nat → Int32} {n : (Nat → Nat → Int32)} {lm : Nat → Int64} {d : Nat} (hd : 4 ≤ d) {m : (Nat → Nat → Int32)} {a1 : Int32} {rv : Int32} {m1 : (Nat → Nat → Int32)} (h : F_Mo_sure m a1 = some (rv, m1)) : q_Ev (qXT Ln xs) d 161 (0, [some (.ref 58), some (.int a1), none, none], [], qMM n m lm) (some (.int rv), qMM n m1 lm) := by
  unfold F_Mo_sure at h
  refine q_ev_run 2 (S' := (2, [some (.ref 58), some (.int a1), none, none], [.int a1, .ref 58], qMM n m lm)) rfl ?_
  obtain ⟨r1, hf2, h⟩ := Option.bind_eq_some_iff.mp h
  try dsimp only at h
  refine q_ev_call (S' := (5, [some (.ref 58), some (.int a1), none, none], [], qMM n m lm)) rfl (by omega) (T_Mo_isPoint (by first | omega | decide) hf2) ?_
  refine q_ev_eq (S' := (5, [some (.ref 58), some (.int a1), none, none], [.int r1], qMM n m lm)) rfl ?_
  by_cases hc3 : r1 = 0
  · rw [if_pos hc3] at h
    refine q_ev_brT hc3 (a := 8) (b := 10) rfl ?_
    refine q_ev_run 1 (S' := (9, [some (.ref 58), some (.int a1), none, none], [.int (Int32.ofInt (-1))], qMM n m lm)) rfl ?_
    have h_z0 := Option.some.inj h
    obtain ⟨h_0, h_z1⟩ := Prod.mk.inj h_z0
    subst h_0
    subst h_z1
    exact q_ev_ret rfl rfl
  · rw [if_neg hc3] at h
    refine q_ev_brF hc3 (a := 8) (b := 10) rfl ?_
    refine q_ev_run 1 (S' := (11, [some (.ref 58), some (.int a1), none, none], [.ref 58], qMM n m lm)) rfl ?_
    obtain ⟨⟨r4, m5⟩, hf6, h⟩ := Option.bind_eq_some_iff.mp h
    try dsimp only at h
    refine q_ev_call (S' := (14, [some (.ref 58), some (.int a1), none, none], [], qMM n m lm)) rfl (by omega) (T_Mo_ways (by first | omega | decide) hf6) ?_
    refine q_ev_eq (S' := (14, [some (.ref 58), some (.int a1), none, none], [.int r4], qMM n m5 lm)) rfl ?_
    by_cases hc7 : r4 = 0
    · rw [if_pos hc7] at h
      refine q_ev_brT hc7 (a := 17) (b := 20) rfl ?_
      refine q_ev_run 1 (S' := (19, [some (.ref 58), some (.int a1), none, none], [.int (Int32.ofInt (-9))], qMM n m5 lm)) rfl ?_
      have h_z0 := Option.some.inj h
      obtain ⟨h_0, h_z1⟩ := Prod.mk.inj h_z0
      subst h_0
      subst h_z1
      exact q_ev_ret rfl rfl
    · rw [if_neg hc7] at h
      refine q_ev_brF hc7 (a := 17) (b := 20) rfl ?_
      refine q_ev_run 4 (S' := (25, [some (.ref 58), some (.int a1), some (.int (Int32.ofInt (-5))), some (.int 0)], [], qMM n m5 lm)) rfl ?_
      obtain ⟨y8, hl10, h⟩ := Option.bind_eq_some_iff.mp h
      try dsimp only at h
      refine TL_Mo_sure_25 (by first | omega | decide) _ m5 a1 (Int32.ofInt (-5)) 0 _ hl10 (fun w9 => ?_)
      refine q_ev_run 1 (S' := (55, [some (.ref 58), some (.int a1), some (.int y8), w9], [.int y8], qMM n m5 lm)) rfl ?_
      have h_z0 := Option.some.inj h
      obtain ⟨h_0, h_z1⟩ := Prod.mk.inj h_z0
      subst h_0
      subst h_z1
      exact q_ev_ret rfl rfl
noncomputable def FL_La_areToldApart_9_5 : Nat → (Nat → Nat → Int32) → Int32 → Int32 → Int32 → Int32 → Option ((Int32) ⊕ (Unit))
  | 0, _, _, _, _, _ => none
  | fu + 1, m, x1, x2, x3, x4 =>
    if m 9 1 ≤ x4 then
      some (.inr ())
    else
      cond (q_in x4 5) (
        if ((x1 >>> (x4 &&& 31)) &&& 1) = 0 then
          FL_La_areToldApart_9_5 fu m x1 x2 x3 (x4 + 1)
        else
          if (x3 &&& ((1 : Int32) <<< ((m 13 x4.toNatClampNeg &&& x2) &&& 31))) = 0 then
            FL_La_areToldApart_9_5 fu m x1 x2 (x3 ||| ((1 : Int32) <<< ((m 13 x4.toNatClampNeg &&& x2) &&& 31))) (x4 + 1)
          else
            some (.inl (0))
       ) none
theorem TL_La_areToldApart_9_5 {Ln : Nat} {xs : Nat → Int32} {n : (Nat → Nat → Int32)} {lm : Nat → Int64} {d : Nat} (hd : 0 ≤ d) {r : Option Value × qM} : ∀ (fu : Nat) (m : (Nat → Nat → Int32)) (x1 : Int32) (x2 : Int32) (x3 : Int32) (x4 : Int32) (w5 : Option Value) (w6 : Option Value) (o : (Int32) ⊕ (Unit)), FL_La_areToldApart_9_5 fu m x1 x2 x3 x4 = some o → (∀ (rv : Int32), o = .inl rv → r = (some (.int rv), qMM m n lm)) → (∀ (_ : Unit), o = .inr () → ∀ (u3 u4 u5 u6 : Option Value), q_Ev (qXT Ln xs) d 24 (73, [some (.ref 11), some (.int x1), some (.int x2), u3, u4, u5, u6], [], qMM m n lm) r) → q_Ev (qXT Ln xs) d 24 (5, [some (.ref 11), some (.int x1), some (.int x2), some (.int x3), some (.int x4), w5, w6], [], qMM m n lm) r := by
  intro fu
  induction fu with
  | zero => intro m x1 x2 x3 x4 w5 w6 o h hr hk; cases h
  | succ fu ih =>
    intro m x1 x2 x3 x4 w5 w6 o h hr hk
    rw [FL_La_areToldApart_9_5] at h
    refine q_ev_run 3 (S' := (11, [some (.ref 11), some (.int x1), some (.int x2), some (.int x3), some (.int x4), w5, w6], [.int (m 9 1), .int x4], qMM m n lm)) rfl ?_
    by_cases hc1 : m 9 1 ≤ x4
    · rw [if_pos hc1] at h
      refine q_ev_brT hc1 (a := 73) (b := 14) rfl ?_
      obtain rfl := (Option.some.inj h).symm
      exact hk () rfl (some (.int x3)) (some (.int x4)) (w5) (w6)
    · rw [if_neg hc1] at h
      refine q_ev_brF hc1 (a := 73) (b := 14) rfl ?_
      refine q_ev_run 4 (S' := (21, [some (.ref 11), some (.int x1), some (.int x2), some (.int x3), some (.int x4), w5, w6], [.int x4, .ref 15, .int 1], qMM m n lm)) rfl ?_
      obtain ⟨hb2, h⟩ := q_cd h
      refine q_ev_chk (b := q_in x4 5) hb2 (S' := (22, [some (.ref 11), some (.int x1), some (.int x2), some (.int x3), some (.int x4), w5, w6], [.int (m 13 x4.toNatClampNeg), .int 1], qMM m n lm)) rfl ?_
      refine q_ev_run 9 (S' := (33, [some (.ref 11), some (.int x1), some (.int x2), some (.int x3), some (.int x4), some (.int ((1 : Int32) <<< ((m 13 x4.toNatClampNeg &&& x2) &&& 31))), w6], [.int ((x1 >>> (x4 &&& 31)) &&& 1)], qMM m n lm)) rfl ?_
      by_cases hc3 : ((x1 >>> (x4 &&& 31)) &&& 1) = 0
      · rw [if_pos hc3] at h
        refine q_ev_brT hc3 (a := 40) (b := 36) rfl ?_
        refine q_ev_run 8 (S' := (5, [some (.ref 11), some (.int x1), some (.int x2), some (.int x3), some (.int (x4 + 1)), some (.int ((1 : Int32) <<< ((m 13 x4.toNatClampNeg &&& x2) &&& 31))), some (.int 0)], [], qMM m n lm)) rfl ?_
        exact ih m x1 x2 x3 (x4 + 1) (some (.int ((1 : Int32) <<< ((m 13 x4.toNatClampNeg &&& x2) &&& 31)))) (some (.int 0)) _ h hr hk
      · rw [if_neg hc3] at h
        refine q_ev_brF hc3 (a := 40) (b := 36) rfl ?_
        refine q_ev_run 8 (S' := (52, [some (.ref 11), some (.int x1), some (.int x2), some (.int x3), some (.int x4), some (.int ((1 : Int32) <<< ((m 13 x4.toNatClampNeg &&& x2) &&& 31))), some (.int 1)], [.int (x3 &&& ((1 : Int32) <<< ((m 13 x4.toNatClampNeg &&& x2) &&& 31)))], qMM m n lm)) rfl ?_
        by_cases hc4 : (x3 &&& ((1 : Int32) <<< ((m 13 x4.toNatClampNeg &&& x2) &&& 31))) = 0
        · rw [if_pos hc4] at h
          refine q_ev_brT hc4 (a := 57) (b := 55) rfl ?_
          refine q_ev_run 8 (S' := (5, [some (.ref 11), some (.int x1), some (.int x2), some (.int (x3 ||| ((1 : Int32) <<< ((m 13 x4.toNatClampNeg &&& x2) &&& 31)))), some (.int (x4 + 1)), some (.int ((1 : Int32) <<< ((m 13 x4.toNatClampNeg &&& x2) &&& 31))), some (.int 1)], [], qMM m n lm)) rfl ?_
          exact ih m x1 x2 (x3 ||| ((1 : Int32) <<< ((m 13 x4.toNatClampNeg &&& x2) &&& 31))) (x4 + 1) (some (.int ((1 : Int32) <<< ((m 13 x4.toNatClampNeg &&& x2) &&& 31)))) (some (.int 1)) _ h hr hk
        · rw [if_neg hc4] at h
          refine q_ev_brF hc4 (a := 57) (b := 55) rfl ?_
          refine q_ev_run 1 (S' := (56, [some (.ref 11), some (.int x1), some (.int x2), some (.int x3), some (.int x4), some (.int ((1 : Int32) <<< ((m 13 x4.toNatClampNeg &&& x2) &&& 31))), some (.int 1)], [.int 0], qMM m n lm)) rfl ?_
          obtain rfl := (Option.some.inj h).symm
          rw [hr _ rfl]
          exact q_ev_ret rfl rfl
noncomputable def F_La_areToldApart_9 (m : (Nat → Nat → Int32)) (a1 : Int32) (a2 : Int32) : Option (Int32) :=
  Option.bind (FL_La_areToldApart_9_5 qFU m a1 a2 0 0) (fun o6 => match o6 with
    | .inl v0 => some v0
    | .inr _ =>
      some (1))
theorem T_La_areToldApart_9 {Ln : Nat} {xs : Nat → Int32} {n : (Nat → Nat → Int32)} {lm : Nat → Int64} {d : Nat} (hd : 0 ≤ d) {m : (Nat → Nat → Int32)} {a1 : Int32} {a2 : Int32} {rv : Int32} (h : F_La_areToldApart_9 m a1 a2 = some rv) : q_Ev (qXT Ln xs) d 24 (0, [some (.ref 11), some (.int a1), some (.int a2), none, none, none, none], [], qMM m n lm) (some (.int rv), qMM m n lm) := by
  unfold F_La_areToldApart_9 at h
  refine q_ev_run 4 (S' := (5, [some (.ref 11), some (.int a1), some (.int a2), some (.int 0), some (.int 0), none, none], [], qMM m n lm)) rfl ?_
  obtain ⟨o6, hl5, h⟩ := Option.bind_eq_some_iff.mp h
  rcases o6 with v0 | _
  · have h_z0 := Option.some.inj h
    subst h_z0
    exact TL_La_areToldApart_9_5 (by first | omega | decide) _ m a1 a2 0 0 (none) (none) _ hl5 (fun _ hh => by cases hh; rfl) (fun _ hh => by cases hh)
  · refine TL_La_areToldApart_9_5 (by first | omega | decide) _ m a1 a2 0 0 (none) (none) _ hl5 (fun _ hh => by cases hh) (fun _ hh w1 w2 w3 w4 => ?_)
    cases hh
    try dsimp only at h
    refine q_ev_run 1 (S' := (74, [some (.ref 11), some (.int a1), some (.int a2), w1, w2, w3, w4], [.int 1], qMM m n lm)) rfl ?_
    have h_z0 := Option.some.inj h
    subst h_z0
    exact q_ev_ret rfl rfl
noncomputable def FL_AT_ask_24 : Nat → (Nat → Nat → Int32) → Int32 → Int32 → Int32 → Option (Int32)
  | 0, _, _, _, _ => none
  | fu + 1, m, x1, x2, x3 =>
    if 15 < x3 then
      some (x2)
    else
      if x2 = (Int32.ofInt (-9)) then
        Option.bind (F_La_areToldApart_9 m x1 x3) (fun r3 =>
          if r3 = 0 then
            FL_AT_ask_24 fu m x1 x2 (x3 + 1)
          else
            FL_AT_ask_24 fu m x1 x3 (x3 + 1))
      else
        Option.bind (F_In_bitCount x3) (fun r6 =>
          Option.bind (F_In_bitCount x2) (fun r8 =>
            if r8 ≤ r6 then
              FL_AT_ask_24 fu m x1 x2 (x3 + 1)
            else
              Option.bind (F_La_areToldApart_9 m x1 x3) (fun r11 =>
                if r11 = 0 then
                  FL_AT_ask_24 fu m x1 x2 (x3 + 1)
                else
                  FL_AT_ask_24 fu m x1 x3 (x3 + 1))))
theorem TL_AT_ask_24 {Ln : Nat} {xs : Nat → Int32} {n : (Nat → Nat → Int32)} {lm : Nat → Int64} {d : Nat} (hd : 1 ≤ d) {r : Option Value × qM} : ∀ (fu : Nat) (m : (Nat → Nat → Int32)) (x1 : Int32) (x2 : Int32) (x3 : Int32) (w4 : Option Value) (y2 : Int32), FL_AT_ask_24 fu m x1 x2 x3 = some y2 → (∀ (u3 u4 : Option Value), q_Ev (qXT Ln xs) d 88 (79, [some (.ref 0), some (.int x1), some (.int y2), u3, u4], [], qMM m n lm) r) → q_Ev (qXT Ln xs) d 88 (24, [some (.ref 0), some (.int x1), some (.int x2), some (.int x3), w4], [], qMM m n lm) r := by
  intro fu
  induction fu with
  | zero => intro m x1 x2 x3 w4 y2 h hk; cases h
  | succ fu ih =>
    intro m x1 x2 x3 w4 y2 h hk
    rw [FL_AT_ask_24] at h
    refine q_ev_run 2 (S' := (27, [some (.ref 0), some (.int x1), some (.int x2), some (.int x3), w4], [.int 15, .int x3], qMM m n lm)) rfl ?_
    by_cases hc1 : 15 < x3
    · rw [if_pos hc1] at h
      refine q_ev_brT hc1 (a := 79) (b := 30) rfl ?_
      have h_z0 := Option.some.inj h
      subst h_z0
      exact hk (some (.int x3)) (w4)
    · rw [if_neg hc1] at h
      refine q_ev_brF hc1 (a := 79) (b := 30) rfl ?_
      refine q_ev_run 2 (S' := (33, [some (.ref 0), some (.int x1), some (.int x2), some (.int x3), w4], [.int (Int32.ofInt (-9)), .int x2], qMM m n lm)) rfl ?_
      by_cases hc2 : x2 = (Int32.ofInt (-9))
      · rw [if_pos hc2] at h
        refine q_ev_brT hc2 (a := 47) (b := 36) rfl ?_
        refine q_ev_run 9 (S' := (65, [some (.ref 0), some (.int x1), some (.int x2), some (.int x3), some (.int 1)], [.int x3, .int x1, .ref 11], qMM m n lm)) rfl ?_
        obtain ⟨r3, hf4, h⟩ := Option.bind_eq_some_iff.mp h
        try dsimp only at h
        refine q_ev_call (S' := (68, [some (.ref 0), some (.int x1), some (.int x2), some (.int x3), some (.int 1)], [], qMM m n lm)) rfl (by omega) (T_La_areToldApart_9 (by first | omega | decide) hf4) ?_
        refine q_ev_eq (S' := (68, [some (.ref 0), some (.int x1), some (.int x2), some (.int x3), some (.int 1)], [.int r3], qMM m n lm)) rfl ?_
        by_cases hc5 : r3 = 0
        · rw [if_pos hc5] at h
          refine q_ev_brT hc5 (a := 73) (b := 71) rfl ?_
          refine q_ev_run 2 (S' := (24, [some (.ref 0), some (.int x1), some (.int x2), some (.int (x3 + 1)), some (.int 1)], [], qMM m n lm)) rfl ?_
          exact ih m x1 x2 (x3 + 1) (some (.int 1)) _ h hk
        · rw [if_neg hc5] at h
          refine q_ev_brF hc5 (a := 73) (b := 71) rfl ?_
          refine q_ev_run 4 (S' := (24, [some (.ref 0), some (.int x1), some (.int x3), some (.int (x3 + 1)), some (.int 1)], [], qMM m n lm)) rfl ?_
          exact ih m x1 x3 (x3 + 1) (some (.int 1)) _ h hk
      · rw [if_neg hc2] at h
        refine q_ev_brF hc2 (a := 47) (b := 36) rfl ?_
        refine q_ev_run 1 (S' := (37, [some (.ref 0), some (.int x1), some (.int x2), some (.int x3), w4], [.int x3], qMM m n lm)) rfl ?_
        obtain ⟨r6, hf7, h⟩ := Option.bind_eq_some_iff.mp h
        try dsimp only at h
        refine q_ev_call (S' := (40, [some (.ref 0), some (.int x1), some (.int x2), some (.int x3), w4], [], qMM m n lm)) rfl (by omega) (T_In_bitCount (by first | omega | decide) hf7) ?_
        refine q_ev_eq (S' := (40, [some (.ref 0), some (.int x1), some (.int x2), some (.int x3), w4], [.int r6], qMM m n lm)) rfl ?_
        refine q_ev_run 1 (S' := (41, [some (.ref 0), some (.int x1), some (.int x2), some (.int x3), w4], [.int x2, .int r6], qMM m n lm)) rfl ?_
        obtain ⟨r8, hf9, h⟩ := Option.bind_eq_some_iff.mp h
        try dsimp only at h
        refine q_ev_call (S' := (44, [some (.ref 0), some (.int x1), some (.int x2), some (.int x3), w4], [.int r6], qMM m n lm)) rfl (by omega) (T_In_bitCount (by first | omega | decide) hf9) ?_
        refine q_ev_eq (S' := (44, [some (.ref 0), some (.int x1), some (.int x2), some (.int x3), w4], [.int r8, .int r6], qMM m n lm)) rfl ?_
        by_cases hc10 : r8 ≤ r6
        · rw [if_pos hc10] at h
          refine q_ev_brT hc10 (a := 51) (b := 47) rfl ?_
          refine q_ev_run 6 (S' := (24, [some (.ref 0), some (.int x1), some (.int x2), some (.int (x3 + 1)), some (.int 0)], [], qMM m n lm)) rfl ?_
          exact ih m x1 x2 (x3 + 1) (some (.int 0)) _ h hk
        · rw [if_neg hc10] at h
          refine q_ev_brF hc10 (a := 51) (b := 47) rfl ?_
          refine q_ev_run 9 (S' := (65, [some (.ref 0), some (.int x1), some (.int x2), some (.int x3), some (.int 1)], [.int x3, .int x1, .ref 11], qMM m n lm)) rfl ?_
          obtain ⟨r11, hf12, h⟩ := Option.bind_eq_some_iff.mp h
          try dsimp only at h
          refine q_ev_call (S' := (68, [some (.ref 0), some (.int x1), some (.int x2), some (.int x3), some (.int 1)], [], qMM m n lm)) rfl (by omega) (T_La_areToldApart_9 (by first | omega | decide) hf12) ?_
          refine q_ev_eq (S' := (68, [some (.ref 0), some (.int x1), some (.int x2), some (.int x3), some (.int 1)], [.int r11], qMM m n lm)) rfl ?_
          by_cases hc13 : r11 = 0
          · rw [if_pos hc13] at h
            refine q_ev_brT hc13 (a := 73) (b := 71) rfl ?_
            refine q_ev_run 2 (S' := (24, [some (.ref 0), some (.int x1), some (.int x2), some (.int (x3 + 1)), some (.int 1)], [], qMM m n lm)) rfl ?_
            exact ih m x1 x2 (x3 + 1) (some (.int 1)) _ h hk
          · rw [if_neg hc13] at h
            refine q_ev_brF hc13 (a := 73) (b := 71) rfl ?_
            refine q_ev_run 4 (S' := (24, [some (.ref 0), some (.int x1), some (.int x3), some (.int (x3 + 1)), some (.int 1)], [], qMM m n lm)) rfl ?_
            exact ih m x1 x3 (x3 + 1) (some (.int 1)) _ h hk
noncomputable def F_AT_ask (m : (Nat → Nat → Int32)) (a1 : Int32) : Option (Int32) :=
  if a1 < 0 then
    some ((Int32.ofInt (-1)))
  else
    if a1 < ((1 : Int32) <<< (m 9 1 &&& 31)) then
      Option.bind (FL_AT_ask_24 qFU m a1 (Int32.ofInt (-9)) 0) (fun y3 =>
        some (y3))
    else
      some ((Int32.ofInt (-1)))
theorem T_AT_ask {Ln : Nat} {xs : Nat → Int32} {n : (Nat → Nat → Int32)} {lm : Nat → Int64} {d : Nat} (hd : 1 ≤ d) {m : (Nat → Nat → Int32)} {a1 : Int32} {rv : Int32} (h : F_AT_ask m a1 = some rv) : q_Ev (qXT Ln xs) d 88 (0, [some (.ref 0), some (.int a1), none, none, none], [], qMM m n lm) (some (.int rv), qMM m n lm) := by
  unfold F_AT_ask at h
  refine q_ev_run 1 (S' := (1, [some (.ref 0), some (.int a1), none, none, none], [.int a1], qMM m n lm)) rfl ?_
  by_cases hc1 : a1 < 0
  · rw [if_pos hc1] at h
    refine q_ev_brT hc1 (a := 17) (b := 4) rfl ?_
    refine q_ev_run 1 (S' := (18, [some (.ref 0), some (.int a1), none, none, none], [.int (Int32.ofInt (-1))], qMM m n lm)) rfl ?_
    have h_z0 := Option.some.inj h
    subst h_z0
    exact q_ev_ret rfl rfl
  · rw [if_neg hc1] at h
    refine q_ev_brF hc1 (a := 17) (b := 4) rfl ?_
    refine q_ev_run 6 (S' := (14, [some (.ref 0), some (.int a1), none, none, none], [.int ((1 : Int32) <<< (m 9 1 &&& 31)), .int a1], qMM m n lm)) rfl ?_
    by_cases hc2 : a1 < ((1 : Int32) <<< (m 9 1 &&& 31))
    · rw [if_pos hc2] at h
      refine q_ev_brT hc2 (a := 19) (b := 17) rfl ?_
      refine q_ev_run 4 (S' := (24, [some (.ref 0), some (.int a1), some (.int (Int32.ofInt (-9))), some (.int 0), none], [], qMM m n lm)) rfl ?_
      obtain ⟨y3, hl6, h⟩ := Option.bind_eq_some_iff.mp h
      try dsimp only at h
      refine TL_AT_ask_24 (by first | omega | decide) _ m a1 (Int32.ofInt (-9)) 0 (none) _ hl6 (fun w4 w5 => ?_)
      refine q_ev_run 1 (S' := (80, [some (.ref 0), some (.int a1), some (.int y3), w4, w5], [.int y3], qMM m n lm)) rfl ?_
      have h_z0 := Option.some.inj h
      subst h_z0
      exact q_ev_ret rfl rfl
    · rw [if_neg hc2] at h
      refine q_ev_brF hc2 (a := 19) (b := 17) rfl ?_
      refine q_ev_run 1 (S' := (18, [some (.ref 0), some (.int a1), none, none, none], [.int (Int32.ofInt (-1))], qMM m n lm)) rfl ?_
      have h_z0 := Option.some.inj h
      subst h_z0
      exact q_ev_ret rfl rfl
noncomputable def FL_Mo_ask_36 : Nat → (Nat → Nat → Int32) → Int32 → Int32 → Int32 → Int32 → Int32 → Option (Int32)
  | 0, _, _, _, _, _, _ => none
  | fu + 1, m, x1, x2, x3, x4, x5 =>
    if 25 ≤ x5 then
      some (x4)
    else
      if (x5 - x5 / 5 * 5) ≤ (x5 / 5) then
        if x4 = 0 then
          FL_Mo_ask_36 fu m x1 x2 x3 0 (x5 + 1)
        else
          FL_Mo_ask_36 fu m x1 x2 x3 1 (x5 + 1)
      else
        if ((x1 >>> ((x5 / 5) &&& 31)) &&& 1) = 1 then
          if ((x1 >>> ((x5 - x5 / 5 * 5) &&& 31)) &&& 1) = 1 then
            if x4 = 0 then
              FL_Mo_ask_36 fu m x1 x2 x3 0 (x5 + 1)
            else
              cond (q_in (8 + (x5 / 5)) 93) (
                cond (q_in (8 + (x5 - x5 / 5 * 5)) 93) (
                  if ((m 58 ((8 + (x5 / 5))).toNatClampNeg ^^^ m 58 ((8 + (x5 - x5 / 5 * 5))).toNatClampNeg) &&& x3) = 0 then
                    FL_Mo_ask_36 fu m x1 x2 x3 0 (x5 + 1)
                  else
                    FL_Mo_ask_36 fu m x1 x2 x3 1 (x5 + 1)
                 ) none
               ) none
          else
            if x4 = 0 then
              FL_Mo_ask_36 fu m x1 x2 x3 0 (x5 + 1)
            else
              FL_Mo_ask_36 fu m x1 x2 x3 1 (x5 + 1)
        else
          if x4 = 0 then
            FL_Mo_ask_36 fu m x1 x2 x3 0 (x5 + 1)
          else
            FL_Mo_ask_36 fu m x1 x2 x3 1 (x5 + 1)
theorem TL_Mo_ask_36 {Ln : Nat} {xs : Nat → Int32} {n : (Nat → Nat → Int32)} {lm : Nat → Int64} {d : Nat} (hd : 0 ≤ d) {r : Option Value × qM} : ∀ (fu : Nat) (m : (Nat → Nat → Int32)) (x1 : Int32) (x2 : Int32) (x3 : Int32) (x4 : Int32) (x5 : Int32) (w6 : Option Value) (w7 : Option Value) (w8 : Option Value) (y4 : Int32), FL_Mo_ask_36 fu m x1 x2 x3 x4 x5 = some y4 → (∀ (u5 u6 u7 u8 : Option Value), q_Ev (qXT Ln xs) d 162 (138, [some (.ref 58), some (.int x1), some (.int x2), some (.int x3), some (.int y4), u5, u6, u7, u8], [], qMM n m lm) r) → q_Ev (qXT Ln xs) d 162 (36, [some (.ref 58), some (.int x1), some (.int x2), some (.int x3), some (.int x4), some (.int x5), w6, w7, w8], [], qMM n m lm) r := by
  intro fu
  induction fu with
  | zero => intro m x1 x2 x3 x4 x5 w6 w7 w8 y4 h hk; cases h
  | succ fu ih =>
    intro m x1 x2 x3 x4 x5 w6 w7 w8 y4 h hk
    rw [FL_Mo_ask_36] at h
    refine q_ev_run 2 (S' := (40, [some (.ref 58), some (.int x1), some (.int x2), some (.int x3), some (.int x4), some (.int x5), w6, w7, w8], [.int 25, .int x5], qMM n m lm)) rfl ?_
    by_cases hc1 : 25 ≤ x5
    · rw [if_pos hc1] at h
      refine q_ev_brT hc1 (a := 138) (b := 43) rfl ?_
      have h_z0 := Option.some.inj h
      subst h_z0
      exact hk (some (.int x5)) (w6) (w7) (w8)
    · rw [if_neg hc1] at h
      refine q_ev_brF hc1 (a := 138) (b := 43) rfl ?_
      refine q_ev_run 10 (S' := (59, [some (.ref 58), some (.int x1), some (.int x2), some (.int x3), some (.int x4), some (.int x5), some (.int (x5 / 5)), some (.int (x5 - x5 / 5 * 5)), w8], [.int (x5 - x5 / 5 * 5), .int (x5 / 5)], qMM n m lm)) rfl ?_
      by_cases hc2 : (x5 - x5 / 5 * 5) ≤ (x5 / 5)
      · rw [if_pos hc2] at h
        refine q_ev_brT hc2 (a := 86) (b := 62) rfl ?_
        refine q_ev_run 3 (S' := (91, [some (.ref 58), some (.int x1), some (.int x2), some (.int x3), some (.int x4), some (.int x5), some (.int (x5 / 5)), some (.int (x5 - x5 / 5 * 5)), some (.int 0)], [.int x4], qMM n m lm)) rfl ?_
        by_cases hc3 : x4 = 0
        · rw [if_pos hc3] at h
          refine q_ev_brT hc3 (a := 129) (b := 94) rfl ?_
          refine q_ev_run 4 (S' := (36, [some (.ref 58), some (.int x1), some (.int x2), some (.int x3), some (.int 0), some (.int (x5 + 1)), some (.int (x5 / 5)), some (.int (x5 - x5 / 5 * 5)), some (.int 0)], [], qMM n m lm)) rfl ?_
          exact ih m x1 x2 x3 0 (x5 + 1) (some (.int (x5 / 5))) (some (.int (x5 - x5 / 5 * 5))) (some (.int 0)) _ h hk
        · rw [if_neg hc3] at h
          refine q_ev_brF hc3 (a := 129) (b := 94) rfl ?_
          refine q_ev_run 7 (S' := (36, [some (.ref 58), some (.int x1), some (.int x2), some (.int x3), some (.int 1), some (.int (x5 + 1)), some (.int (x5 / 5)), some (.int (x5 - x5 / 5 * 5)), some (.int 0)], [], qMM n m lm)) rfl ?_
          exact ih m x1 x2 x3 1 (x5 + 1) (some (.int (x5 / 5))) (some (.int (x5 - x5 / 5 * 5))) (some (.int 0)) _ h hk
      · rw [if_neg hc2] at h
        refine q_ev_brF hc2 (a := 86) (b := 62) rfl ?_
        refine q_ev_run 6 (S' := (69, [some (.ref 58), some (.int x1), some (.int x2), some (.int x3), some (.int x4), some (.int x5), some (.int (x5 / 5)), some (.int (x5 - x5 / 5 * 5)), w8], [.int 1, .int ((x1 >>> ((x5 / 5) &&& 31)) &&& 1)], qMM n m lm)) rfl ?_
        by_cases hc4 : ((x1 >>> ((x5 / 5) &&& 31)) &&& 1) = 1
        · rw [if_pos hc4] at h
          refine q_ev_brT hc4 (a := 72) (b := 86) rfl ?_
          refine q_ev_run 6 (S' := (79, [some (.ref 58), some (.int x1), some (.int x2), some (.int x3), some (.int x4), some (.int x5), some (.int (x5 / 5)), some (.int (x5 - x5 / 5 * 5)), w8], [.int 1, .int ((x1 >>> ((x5 - x5 / 5 * 5) &&& 31)) &&& 1)], qMM n m lm)) rfl ?_
          by_cases hc5 : ((x1 >>> ((x5 - x5 / 5 * 5) &&& 31)) &&& 1) = 1
          · rw [if_pos hc5] at h
            refine q_ev_brT hc5 (a := 82) (b := 86) rfl ?_
            refine q_ev_run 4 (S' := (91, [some (.ref 58), some (.int x1), some (.int x2), some (.int x3), some (.int x4), some (.int x5), some (.int (x5 / 5)), some (.int (x5 - x5 / 5 * 5)), some (.int 1)], [.int x4], qMM n m lm)) rfl ?_
            by_cases hc6 : x4 = 0
            · rw [if_pos hc6] at h
              refine q_ev_brT hc6 (a := 129) (b := 94) rfl ?_
              refine q_ev_run 4 (S' := (36, [some (.ref 58), some (.int x1), some (.int x2), some (.int x3), some (.int 0), some (.int (x5 + 1)), some (.int (x5 / 5)), some (.int (x5 - x5 / 5 * 5)), some (.int 1)], [], qMM n m lm)) rfl ?_
              exact ih m x1 x2 x3 0 (x5 + 1) (some (.int (x5 / 5))) (some (.int (x5 - x5 / 5 * 5))) (some (.int 1)) _ h hk
            · rw [if_neg hc6] at h
              refine q_ev_brF hc6 (a := 129) (b := 94) rfl ?_
              refine q_ev_run 7 (S' := (108, [some (.ref 58), some (.int x1), some (.int x2), some (.int x3), some (.int x4), some (.int x5), some (.int (x5 / 5)), some (.int (x5 - x5 / 5 * 5)), some (.int 1)], [.int (8 + (x5 / 5)), .ref 60], qMM n m lm)) rfl ?_
              obtain ⟨hb7, h⟩ := q_cd h
              refine q_ev_chk (b := q_in (8 + (x5 / 5)) 93) hb7 (S' := (109, [some (.ref 58), some (.int x1), some (.int x2), some (.int x3), some (.int x4), some (.int x5), some (.int (x5 / 5)), some (.int (x5 - x5 / 5 * 5)), some (.int 1)], [.int (m 58 ((8 + (x5 / 5))).toNatClampNeg)], qMM n m lm)) rfl ?_
              refine q_ev_run 5 (S' := (118, [some (.ref 58), some (.int x1), some (.int x2), some (.int x3), some (.int x4), some (.int x5), some (.int (x5 / 5)), some (.int (x5 - x5 / 5 * 5)), some (.int 1)], [.int (8 + (x5 - x5 / 5 * 5)), .ref 60, .int (m 58 ((8 + (x5 / 5))).toNatClampNeg)], qMM n m lm)) rfl ?_
              obtain ⟨hb8, h⟩ := q_cd h
              refine q_ev_chk (b := q_in (8 + (x5 - x5 / 5 * 5)) 93) hb8 (S' := (119, [some (.ref 58), some (.int x1), some (.int x2), some (.int x3), some (.int x4), some (.int x5), some (.int (x5 / 5)), some (.int (x5 - x5 / 5 * 5)), some (.int 1)], [.int (m 58 ((8 + (x5 - x5 / 5 * 5))).toNatClampNeg), .int (m 58 ((8 + (x5 / 5))).toNatClampNeg)], qMM n m lm)) rfl ?_
              refine q_ev_run 3 (S' := (122, [some (.ref 58), some (.int x1), some (.int x2), some (.int x3), some (.int x4), some (.int x5), some (.int (x5 / 5)), some (.int (x5 - x5 / 5 * 5)), some (.int 1)], [.int ((m 58 ((8 + (x5 / 5))).toNatClampNeg ^^^ m 58 ((8 + (x5 - x5 / 5 * 5))).toNatClampNeg) &&& x3)], qMM n m lm)) rfl ?_
              by_cases hc9 : ((m 58 ((8 + (x5 / 5))).toNatClampNeg ^^^ m 58 ((8 + (x5 - x5 / 5 * 5))).toNatClampNeg) &&& x3) = 0
              · rw [if_pos hc9] at h
                refine q_ev_brT hc9 (a := 129) (b := 125) rfl ?_
                refine q_ev_run 4 (S' := (36, [some (.ref 58), some (.int x1), some (.int x2), some (.int x3), some (.int 0), some (.int (x5 + 1)), some (.int (x5 / 5)), some (.int (x5 - x5 / 5 * 5)), some (.int 1)], [], qMM n m lm)) rfl ?_
                exact ih m x1 x2 x3 0 (x5 + 1) (some (.int (x5 / 5))) (some (.int (x5 - x5 / 5 * 5))) (some (.int 1)) _ h hk
              · rw [if_neg hc9] at h
                refine q_ev_brF hc9 (a := 129) (b := 125) rfl ?_
                refine q_ev_run 5 (S' := (36, [some (.ref 58), some (.int x1), some (.int x2), some (.int x3), some (.int 1), some (.int (x5 + 1)), some (.int (x5 / 5)), some (.int (x5 - x5 / 5 * 5)), some (.int 1)], [], qMM n m lm)) rfl ?_
                exact ih m x1 x2 x3 1 (x5 + 1) (some (.int (x5 / 5))) (some (.int (x5 - x5 / 5 * 5))) (some (.int 1)) _ h hk
          · rw [if_neg hc5] at h
            refine q_ev_brF hc5 (a := 82) (b := 86) rfl ?_
            refine q_ev_run 3 (S' := (91, [some (.ref 58), some (.int x1), some (.int x2), some (.int x3), some (.int x4), some (.int x5), some (.int (x5 / 5)), some (.int (x5 - x5 / 5 * 5)), some (.int 0)], [.int x4], qMM n m lm)) rfl ?_
            by_cases hc10 : x4 = 0
            · rw [if_pos hc10] at h
              refine q_ev_brT hc10 (a := 129) (b := 94) rfl ?_
              refine q_ev_run 4 (S' := (36, [some (.ref 58), some (.int x1), some (.int x2), some (.int x3), some (.int 0), some (.int (x5 + 1)), some (.int (x5 / 5)), some (.int (x5 - x5 / 5 * 5)), some (.int 0)], [], qMM n m lm)) rfl ?_
              exact ih m x1 x2 x3 0 (x5 + 1) (some (.int (x5 / 5))) (some (.int (x5 - x5 / 5 * 5))) (some (.int 0)) _ h hk
            · rw [if_neg hc10] at h
              refine q_ev_brF hc10 (a := 129) (b := 94) rfl ?_
              refine q_ev_run 7 (S' := (36, [some (.ref 58), some (.int x1), some (.int x2), some (.int x3), some (.int 1), some (.int (x5 + 1)), some (.int (x5 / 5)), some (.int (x5 - x5 / 5 * 5)), some (.int 0)], [], qMM n m lm)) rfl ?_
              exact ih m x1 x2 x3 1 (x5 + 1) (some (.int (x5 / 5))) (some (.int (x5 - x5 / 5 * 5))) (some (.int 0)) _ h hk
        · rw [if_neg hc4] at h
          refine q_ev_brF hc4 (a := 72) (b := 86) rfl ?_
          refine q_ev_run 3 (S' := (91, [some (.ref 58), some (.int x1), some (.int x2), some (.int x3), some (.int x4), some (.int x5), some (.int (x5 / 5)), some (.int (x5 - x5 / 5 * 5)), some (.int 0)], [.int x4], qMM n m lm)) rfl ?_
          by_cases hc11 : x4 = 0
          · rw [if_pos hc11] at h
            refine q_ev_brT hc11 (a := 129) (b := 94) rfl ?_
            refine q_ev_run 4 (S' := (36, [some (.ref 58), some (.int x1), some (.int x2), some (.int x3), some (.int 0), some (.int (x5 + 1)), some (.int (x5 / 5)), some (.int (x5 - x5 / 5 * 5)), some (.int 0)], [], qMM n m lm)) rfl ?_
            exact ih m x1 x2 x3 0 (x5 + 1) (some (.int (x5 / 5))) (some (.int (x5 - x5 / 5 * 5))) (some (.int 0)) _ h hk
          · rw [if_neg hc11] at h
            refine q_ev_brF hc11 (a := 129) (b := 94) rfl ?_
            refine q_ev_run 7 (S' := (36, [some (.ref 58), some (.int x1), some (.int x2), some (.int x3), some (.int 1), some (.int (x5 + 1)), some (.int (x5 / 5)), some (.int (x5 - x5 / 5 * 5)), some (.int 0)], [], qMM n m lm)) rfl ?_
            exact ih m x1 x2 x3 1 (x5 + 1) (some (.int (x5 / 5))) (some (.int (x5 - x5 / 5 * 5))) (some (.int 0)) _ h hk
noncomputable def FL_Mo_ask_26 : Nat → (Nat → Nat → Int32) → Int32 → Int32 → Int32 → Option (Int32)
  | 0, _, _, _, _ => none
  | fu + 1, m, x1, x2, x3 =>
    if x3 < 0 then
      some (x2)
    else
      Option.bind (FL_Mo_ask_36 qFU m x1 x2 x3 1 0) (fun y2 =>
        if y2 = 0 then
          FL_Mo_ask_26 fu m x1 x2 (x3 + (Int32.ofInt (-1)))
        else
          if x2 = (Int32.ofInt (-9)) then
            FL_Mo_ask_26 fu m x1 x3 (x3 + (Int32.ofInt (-1)))
          else
            Option.bind (F_Mo_ones x3) (fun r10 =>
              Option.bind (F_Mo_ones x2) (fun r12 =>
                if r12 < r10 then
                  FL_Mo_ask_26 fu m x1 x2 (x3 + (Int32.ofInt (-1)))
                else
                  FL_Mo_ask_26 fu m x1 x3 (x3 + (Int32.ofInt (-1))))))
theorem TL_Mo_ask_26 {Ln : Nat} {xs : Nat → Int32} {n : (Nat → Nat → Int32)} {lm : Nat → Int64} {d : Nat} (hd : 1 ≤ d) {r : Option Value × qM} : ∀ (fu : Nat) (m : (Nat → Nat → Int32)) (x1 : Int32) (x2 : Int32) (x3 : Int32) (w4 : Option Value) (w5 : Option Value) (w6 : Option Value) (w7 : Option Value) (w8 : Option Value) (y2 : Int32), FL_Mo_ask_26 fu m x1 x2 x3 = some y2 → (∀ (u3 u4 u5 u6 u7 u8 : Option Value), q_Ev (qXT Ln xs) d 162 (172, [some (.ref 58), some (.int x1), some (.int y2), u3, u4, u5, u6, u7, u8], [], qMM n m lm) r) → q_Ev (qXT Ln xs) d 162 (26, [some (.ref 58), some (.int x1), some (.int x2), some (.int x3), w4, w5, w6, w7, w8], [], qMM n m lm) r := by
  intro fu
  induction fu with
  | zero => intro m x1 x2 x3 w4 w5 w6 w7 w8 y2 h hk; cases h
  | succ fu ih =>
    intro m x1 x2 x3 w4 w5 w6 w7 w8 y2 h hk
    rw [FL_Mo_ask_26] at h
    refine q_ev_run 1 (S' := (27, [some (.ref 58), some (.int x1), some (.int x2), some (.int x3), w4, w5, w6, w7, w8], [.int x3], qMM n m lm)) rfl ?_
    by_cases hc1 : x3 < 0
    · rw [if_pos hc1] at h
      refine q_ev_brT hc1 (a := 172) (b := 30) rfl ?_
      have h_z0 := Option.some.inj h
      subst h_z0
      exact hk (some (.int x3)) (w4) (w5) (w6) (w7) (w8)
    · rw [if_neg hc1] at h
      refine q_ev_brF hc1 (a := 172) (b := 30) rfl ?_
      refine q_ev_run 4 (S' := (36, [some (.ref 58), some (.int x1), some (.int x2), some (.int x3), some (.int 1), some (.int 0), w6, w7, w8], [], qMM n m lm)) rfl ?_
      obtain ⟨y2, hl7, h⟩ := Option.bind_eq_some_iff.mp h
      try dsimp only at h
      refine TL_Mo_ask_36 (by first | omega | decide) _ m x1 x2 x3 1 0 (w6) (w7) (w8) _ hl7 (fun w3 w4 w5 w6 => ?_)
      refine q_ev_run 1 (S' := (140, [some (.ref 58), some (.int x1), some (.int x2), some (.int x3), some (.int y2), w3, w4, w5, w6], [.int y2], qMM n m lm)) rfl ?_
      by_cases hc8 : y2 = 0
      · rw [if_pos hc8] at h
        refine q_ev_brT hc8 (a := 164) (b := 143) rfl ?_
        refine q_ev_run 4 (S' := (26, [some (.ref 58), some (.int x1), some (.int x2), some (.int (x3 + (Int32.ofInt (-1)))), some (.int y2), w3, w4, w5, w6], [], qMM n m lm)) rfl ?_
        exact ih m x1 x2 (x3 + (Int32.ofInt (-1))) (some (.int y2)) (w3) (w4) (w5) (w6) _ h hk
      · rw [if_neg hc8] at h
        refine q_ev_brF hc8 (a := 164) (b := 143) rfl ?_
        refine q_ev_run 2 (S' := (146, [some (.ref 58), some (.int x1), some (.int x2), some (.int x3), some (.int y2), w3, w4, w5, w6], [.int (Int32.ofInt (-9)), .int x2], qMM n m lm)) rfl ?_
        by_cases hc9 : x2 = (Int32.ofInt (-9))
        · rw [if_pos hc9] at h
          refine q_ev_brT hc9 (a := 160) (b := 149) rfl ?_
          refine q_ev_run 5 (S' := (26, [some (.ref 58), some (.int x1), some (.int x3), some (.int (x3 + (Int32.ofInt (-1)))), some (.int y2), w3, w4, w5, w6], [], qMM n m lm)) rfl ?_
          exact ih m x1 x3 (x3 + (Int32.ofInt (-1))) (some (.int y2)) (w3) (w4) (w5) (w6) _ h hk
        · rw [if_neg hc9] at h
          refine q_ev_brF hc9 (a := 160) (b := 149) rfl ?_
          refine q_ev_run 1 (S' := (150, [some (.ref 58), some (.int x1), some (.int x2), some (.int x3), some (.int y2), w3, w4, w5, w6], [.int x3], qMM n m lm)) rfl ?_
          obtain ⟨r10, hf11, h⟩ := Option.bind_eq_some_iff.mp h
          try dsimp only at h
          refine q_ev_call (S' := (153, [some (.ref 58), some (.int x1), some (.int x2), some (.int x3), some (.int y2), w3, w4, w5, w6], [], qMM n m lm)) rfl (by omega) (T_Mo_ones (by first | omega | decide) hf11) ?_
          refine q_ev_eq (S' := (153, [some (.ref 58), some (.int x1), some (.int x2), some (.int x3), some (.int y2), w3, w4, w5, w6], [.int r10], qMM n m lm)) rfl ?_
          refine q_ev_run 1 (S' := (154, [some (.ref 58), some (.int x1), some (.int x2), some (.int x3), some (.int y2), w3, w4, w5, w6], [.int x2, .int r10], qMM n m lm)) rfl ?_
          obtain ⟨r12, hf13, h⟩ := Option.bind_eq_some_iff.mp h
          try dsimp only at h
          refine q_ev_call (S' := (157, [some (.ref 58), some (.int x1), some (.int x2), some (.int x3), some (.int y2), w3, w4, w5, w6], [.int r10], qMM n m lm)) rfl (by omega) (T_Mo_ones (by first | omega | decide) hf13) ?_
          refine q_ev_eq (S' := (157, [some (.ref 58), some (.int x1), some (.int x2), some (.int x3), some (.int y2), w3, w4, w5, w6], [.int r12, .int r10], qMM n m lm)) rfl ?_
          by_cases hc14 : r12 < r10
          · rw [if_pos hc14] at h
            refine q_ev_brT hc14 (a := 164) (b := 160) rfl ?_
            refine q_ev_run 4 (S' := (26, [some (.ref 58), some (.int x1), some (.int x2), some (.int (x3 + (Int32.ofInt (-1)))), some (.int y2), w3, w4, w5, w6], [], qMM n m lm)) rfl ?_
            exact ih m x1 x2 (x3 + (Int32.ofInt (-1))) (some (.int y2)) (w3) (w4) (w5) (w6) _ h hk
          · rw [if_neg hc14] at h
            refine q_ev_brF hc14 (a := 164) (b := 160) rfl ?_
            refine q_ev_run 5 (S' := (26, [some (.ref 58), some (.int x1), some (.int x3), some (.int (x3 + (Int32.ofInt (-1)))), some (.int y2), w3, w4, w5, w6], [], qMM n m lm)) rfl ?_
            exact ih m x1 x3 (x3 + (Int32.ofInt (-1))) (some (.int y2)) (w3) (w4) (w5) (w6) _ h hk
