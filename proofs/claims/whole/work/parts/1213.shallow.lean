noncomputable def FL_Gu_findSetsInTime_52_39_24 : Nat → (Nat → Nat → Int32) → Int32 → Int32 → Int32 → Option ((Nat → Nat → Int32))
  | 0, _, _, _, _ => none
  | fu + 1, m, x2, x3, x4 =>
    if x3 ≤ x4 then
      some (m)
    else
      cond (q_in x4 256) (
        if m 54 x4.toNatClampNeg = 0 then
          cond (q_in (x3 ||| x4) 256) (FL_Gu_findSetsInTime_52_39_24 fu (q_w m 54 ((x3 ||| x4)).toNatClampNeg 0) x2 x3 (x4 + 1)) none
        else
          cond (q_in x2 8) (
            if (x4 &&& (m 42 x2.toNatClampNeg ^^^ (Int32.ofInt (-1)))) = 0 then
              cond (q_in (x3 ||| x4) 256) (FL_Gu_findSetsInTime_52_39_24 fu (q_w m 54 ((x3 ||| x4)).toNatClampNeg 1) x2 x3 (x4 + 1)) none
            else
              cond (q_in (x3 ||| x4) 256) (FL_Gu_findSetsInTime_52_39_24 fu (q_w m 54 ((x3 ||| x4)).toNatClampNeg 0) x2 x3 (x4 + 1)) none
           ) none
       ) none
theorem TL_Gu_findSetsInTime_52_39_24 {Ln : Nat} {xs : Nat → Int32} {n : (Nat → Nat → Int32)} {lm : Nat → Int64} {d : Nat} (hd : 0 ≤ d) {r : Option Value × qM} : ∀ (fu : Nat) (m : (Nat → Nat → Int32)) (x2 : Int32) (x3 : Int32) (x4 : Int32)  (m1 : (Nat → Nat → Int32)), FL_Gu_findSetsInTime_52_39_24 fu m x2 x3 x4 = some m1 → (∀ (u4 : Option Value), q_Ev (qXT Ln xs) d 2 (74, [some (.ref 54), some (.ref 41), some (.int x2), some (.int x3), u4], [], qMM m1 n lm) r) → q_Ev (qXT Ln xs) d 2 (24, [some (.ref 54), some (.ref 41), some (.int x2), some (.int x3), some (.int x4)], [], qMM m n lm) r := by
  intro fu
  induction fu with
  | zero => intro m x2 x3 x4 m1 h hk; cases h
  | succ fu ih =>
    intro m x2 x3 x4 m1 h hk
    rw [FL_Gu_findSetsInTime_52_39_24] at h
    refine q_ev_run 2 (S' := (27, [some (.ref 54), some (.ref 41), some (.int x2), some (.int x3), some (.int x4)], [.int x3, .int x4], qMM m n lm)) rfl ?_
    by_cases hc1 : x3 ≤ x4
    · rw [if_pos hc1] at h
      refine q_ev_brT hc1 (a := 74) (b := 30) rfl ?_
      have h_z0 := Option.some.inj h
      subst h_z0
      exact hk (some (.int x4))
    · rw [if_neg hc1] at h
      refine q_ev_brF hc1 (a := 74) (b := 30) rfl ?_
      refine q_ev_run 8 (S' := (44, [some (.ref 54), some (.ref 41), some (.int x2), some (.int x3), some (.int x4)], [.int x4, .ref 56, .int (x3 ||| x4), .ref 56], qMM m n lm)) rfl ?_
      obtain ⟨hb2, h⟩ := q_cd h
      refine q_ev_chk (b := q_in x4 256) hb2 (S' := (45, [some (.ref 54), some (.ref 41), some (.int x2), some (.int x3), some (.int x4)], [.int (m 54 x4.toNatClampNeg), .int (x3 ||| x4), .ref 56], qMM m n lm)) rfl ?_
      by_cases hc3 : m 54 x4.toNatClampNeg = 0
      · rw [if_pos hc3] at h
        refine q_ev_brT hc3 (a := 66) (b := 48) rfl ?_
        refine q_ev_run 1 (S' := (67, [some (.ref 54), some (.ref 41), some (.int x2), some (.int x3), some (.int x4)], [.int 0, .int (x3 ||| x4), .ref 56], qMM m n lm)) rfl ?_
        obtain ⟨hb4, h⟩ := q_cd h
        refine q_ev_chk (b := q_in (x3 ||| x4) 256) hb4 (S' := (68, [some (.ref 54), some (.ref 41), some (.int x2), some (.int x3), some (.int x4)], [], qMM (q_w m 54 ((x3 ||| x4)).toNatClampNeg 0) n lm)) rfl ?_
        refine q_ev_run 2 (S' := (24, [some (.ref 54), some (.ref 41), some (.int x2), some (.int x3), some (.int (x4 + 1))], [], qMM (q_w m 54 ((x3 ||| x4)).toNatClampNeg 0) n lm)) rfl ?_
        exact ih (q_w m 54 ((x3 ||| x4)).toNatClampNeg 0) x2 x3 (x4 + 1) _ h hk
      · rw [if_neg hc3] at h
        refine q_ev_brF hc3 (a := 66) (b := 48) rfl ?_
        refine q_ev_run 4 (S' := (55, [some (.ref 54), some (.ref 41), some (.int x2), some (.int x3), some (.int x4)], [.int x2, .ref 44, .int x4, .int (x3 ||| x4), .ref 56], qMM m n lm)) rfl ?_
        obtain ⟨hb5, h⟩ := q_cd h
        refine q_ev_chk (b := q_in x2 8) hb5 (S' := (56, [some (.ref 54), some (.ref 41), some (.int x2), some (.int x3), some (.int x4)], [.int (m 42 x2.toNatClampNeg), .int x4, .int (x3 ||| x4), .ref 56], qMM m n lm)) rfl ?_
        refine q_ev_run 3 (S' := (59, [some (.ref 54), some (.ref 41), some (.int x2), some (.int x3), some (.int x4)], [.int (x4 &&& (m 42 x2.toNatClampNeg ^^^ (Int32.ofInt (-1)))), .int (x3 ||| x4), .ref 56], qMM m n lm)) rfl ?_
        by_cases hc6 : (x4 &&& (m 42 x2.toNatClampNeg ^^^ (Int32.ofInt (-1)))) = 0
        · rw [if_pos hc6] at h
          refine q_ev_brT hc6 (a := 62) (b := 66) rfl ?_
          refine q_ev_run 2 (S' := (67, [some (.ref 54), some (.ref 41), some (.int x2), some (.int x3), some (.int x4)], [.int 1, .int (x3 ||| x4), .ref 56], qMM m n lm)) rfl ?_
          obtain ⟨hb7, h⟩ := q_cd h
          refine q_ev_chk (b := q_in (x3 ||| x4) 256) hb7 (S' := (68, [some (.ref 54), some (.ref 41), some (.int x2), some (.int x3), some (.int x4)], [], qMM (q_w m 54 ((x3 ||| x4)).toNatClampNeg 1) n lm)) rfl ?_
          refine q_ev_run 2 (S' := (24, [some (.ref 54), some (.ref 41), some (.int x2), some (.int x3), some (.int (x4 + 1))], [], qMM (q_w m 54 ((x3 ||| x4)).toNatClampNeg 1) n lm)) rfl ?_
          exact ih (q_w m 54 ((x3 ||| x4)).toNatClampNeg 1) x2 x3 (x4 + 1) _ h hk
        · rw [if_neg hc6] at h
          refine q_ev_brF hc6 (a := 62) (b := 66) rfl ?_
          refine q_ev_run 1 (S' := (67, [some (.ref 54), some (.ref 41), some (.int x2), some (.int x3), some (.int x4)], [.int 0, .int (x3 ||| x4), .ref 56], qMM m n lm)) rfl ?_
          obtain ⟨hb8, h⟩ := q_cd h
          refine q_ev_chk (b := q_in (x3 ||| x4) 256) hb8 (S' := (68, [some (.ref 54), some (.ref 41), some (.int x2), some (.int x3), some (.int x4)], [], qMM (q_w m 54 ((x3 ||| x4)).toNatClampNeg 0) n lm)) rfl ?_
          refine q_ev_run 2 (S' := (24, [some (.ref 54), some (.ref 41), some (.int x2), some (.int x3), some (.int (x4 + 1))], [], qMM (q_w m 54 ((x3 ||| x4)).toNatClampNeg 0) n lm)) rfl ?_
          exact ih (q_w m 54 ((x3 ||| x4)).toNatClampNeg 0) x2 x3 (x4 + 1) _ h hk
noncomputable def FL_Gu_findSetsInTime_52_39_9 : Nat → (Nat → Nat → Int32) → Int32 → Option ((Nat → Nat → Int32))
  | 0, _, _ => none
  | fu + 1, m, x2 =>
    if m 39 0 ≤ x2 then
      some (m)
    else
      Option.bind (FL_Gu_findSetsInTime_52_39_24 qFU m x2 ((1 : Int32) <<< (x2 &&& 31)) 0) (fun m3 =>
        FL_Gu_findSetsInTime_52_39_9 fu m3 (x2 + 1))
theorem TL_Gu_findSetsInTime_52_39_9 {Ln : Nat} {xs : Nat → Int32} {n : (Nat → Nat → Int32)} {lm : Nat → Int64} {d : Nat} (hd : 0 ≤ d) {r : Option Value × qM} : ∀ (fu : Nat) (m : (Nat → Nat → Int32)) (x2 : Int32) (w3 : Option Value) (w4 : Option Value) (m1 : (Nat → Nat → Int32)), FL_Gu_findSetsInTime_52_39_9 fu m x2 = some m1 → (∀ (u2 u3 u4 : Option Value), q_Ev (qXT Ln xs) d 2 (80, [some (.ref 54), some (.ref 41), u2, u3, u4], [], qMM m1 n lm) r) → q_Ev (qXT Ln xs) d 2 (9, [some (.ref 54), some (.ref 41), some (.int x2), w3, w4], [], qMM m n lm) r := by
  intro fu
  induction fu with
  | zero => intro m x2 w3 w4 m1 h hk; cases h
  | succ fu ih =>
    intro m x2 w3 w4 m1 h hk
    rw [FL_Gu_findSetsInTime_52_39_9] at h
    refine q_ev_run 3 (S' := (14, [some (.ref 54), some (.ref 41), some (.int x2), w3, w4], [.int (m 39 0), .int x2], qMM m n lm)) rfl ?_
    by_cases hc1 : m 39 0 ≤ x2
    · rw [if_pos hc1] at h
      refine q_ev_brT hc1 (a := 80) (b := 17) rfl ?_
      have h_z0 := Option.some.inj h
      subst h_z0
      exact hk (some (.int x2)) (w3) (w4)
    · rw [if_neg hc1] at h
      refine q_ev_brF hc1 (a := 80) (b := 17) rfl ?_
      refine q_ev_run 6 (S' := (24, [some (.ref 54), some (.ref 41), some (.int x2), some (.int ((1 : Int32) <<< (x2 &&& 31))), some (.int 0)], [], qMM m n lm)) rfl ?_
      obtain ⟨m3, hl4, h⟩ := Option.bind_eq_some_iff.mp h
      try dsimp only at h
      refine TL_Gu_findSetsInTime_52_39_24 (by first | omega | decide) _ m x2 ((1 : Int32) <<< (x2 &&& 31)) 0 _ hl4 (fun w2 => ?_)
      refine q_ev_run 2 (S' := (9, [some (.ref 54), some (.ref 41), some (.int (x2 + 1)), some (.int ((1 : Int32) <<< (x2 &&& 31))), w2], [], qMM m3 n lm)) rfl ?_
      exact ih m3 (x2 + 1) (some (.int ((1 : Int32) <<< (x2 &&& 31)))) (w2) _ h hk
noncomputable def F_Gu_findSetsInTime_52_39 (m : (Nat → Nat → Int32)) : Option ((Nat → Nat → Int32)) :=
  Option.bind (FL_Gu_findSetsInTime_52_39_9 qFU (q_w m 54 0 1) 0) (fun m4 =>
    some (m4))
theorem T_Gu_findSetsInTime_52_39 {Ln : Nat} {xs : Nat → Int32} {n : (Nat → Nat → Int32)} {lm : Nat → Int64} {d : Nat} (hd : 0 ≤ d) {m : (Nat → Nat → Int32)} {m1 : (Nat → Nat → Int32)} (h : F_Gu_findSetsInTime_52_39 m = some m1) : q_Ev (qXT Ln xs) d 2 (0, [some (.ref 54), some (.ref 41), none, none, none], [], qMM m n lm) (none, qMM m1 n lm) := by
  unfold F_Gu_findSetsInTime_52_39 at h
  refine q_ev_run 7 (S' := (9, [some (.ref 54), some (.ref 41), some (.int 0), none, none], [], qMM (q_w m 54 0 1) n lm)) rfl ?_
  obtain ⟨m4, hl5, h⟩ := Option.bind_eq_some_iff.mp h
  try dsimp only at h
  refine TL_Gu_findSetsInTime_52_39_9 (by first | omega | decide) _ (q_w m 54 0 1) 0 (none) (none) _ hl5 (fun w1 w2 w3 => ?_)
  have h_z0 := Option.some.inj h
  subst h_z0
  exact q_ev_ret rfl rfl
noncomputable def F_Gu_prepare_52_9_39_21 (m : (Nat → Nat → Int32)) : Option ((Nat → Nat → Int32)) :=
  Option.bind (FL_Gu_prepare_52_9_39_21_23 qFU (q_w (q_w m 52 0 (m 9 1)) 52 1 (((1 : Int32) <<< (m 39 0 &&& 31)) - 1)) 0) (fun m3 =>
    Option.bind (F_Gu_findSetsInTime_52_39 m3) (fun m5 =>
      some (m5)))
theorem T_Gu_prepare_52_9_39_21 {Ln : Nat} {xs : Nat → Int32} {n : (Nat → Nat → Int32)} {lm : Nat → Int64} {d : Nat} (hd : 1 ≤ d) {m : (Nat → Nat → Int32)} {m1 : (Nat → Nat → Int32)} (h : F_Gu_prepare_52_9_39_21 m = some m1) : q_Ev (qXT Ln xs) d 1 (0, [some (.ref 54), some (.ref 11), some (.ref 41), some (.ref 23), none, none], [], qMM m n lm) (none, qMM m1 n lm) := by
  unfold F_Gu_prepare_52_9_39_21 at h
  refine q_ev_run 14 (S' := (23, [some (.ref 54), some (.ref 11), some (.ref 41), some (.ref 23), some (.int 0), none], [], qMM (q_w (q_w m 52 0 (m 9 1)) 52 1 (((1 : Int32) <<< (m 39 0 &&& 31)) - 1)) n lm)) rfl ?_
  obtain ⟨m3, hl4, h⟩ := Option.bind_eq_some_iff.mp h
  try dsimp only at h
  refine TL_Gu_prepare_52_9_39_21_23 (by first | omega | decide) _ (q_w (q_w m 52 0 (m 9 1)) 52 1 (((1 : Int32) <<< (m 39 0 &&& 31)) - 1)) 0 (none) _ hl4 (fun w1 w2 => ?_)
  refine q_ev_run 2 (S' := (109, [some (.ref 54), some (.ref 11), some (.ref 41), some (.ref 23), w1, w2], [.ref 41, .ref 54], qMM m3 n lm)) rfl ?_
  obtain ⟨m5, hf6, h⟩ := Option.bind_eq_some_iff.mp h
  try dsimp only at h
  refine q_ev_call (S' := (112, [some (.ref 54), some (.ref 11), some (.ref 41), some (.ref 23), w1, w2], [], qMM m3 n lm)) rfl (by omega) (T_Gu_findSetsInTime_52_39 (by first | omega | decide) hf6) ?_
  refine q_ev_eq (S' := (112, [some (.ref 54), some (.ref 11), some (.ref 41), some (.ref 23), w1, w2], [], qMM m5 n lm)) rfl ?_
  have h_z0 := Option.some.inj h
  subst h_z0
  exact q_ev_ret rfl rfl
noncomputable def FL_Ar_fill_55_5 : Nat → (Nat → Nat → Int32) → Int32 → Int32 → Int32 → Option ((Nat → Nat → Int32))
  | 0, _, _, _, _ => none
  | fu + 1, m, x1, x2, x3 =>
    if x3 ≤ x2 then
      some (m)
    else
      cond (q_in x2 256) (FL_Ar_fill_55_5 fu (q_w m 55 x2.toNatClampNeg x1) x1 (x2 + 1) x3) none
theorem TL_Ar_fill_55_5 {Ln : Nat} {xs : Nat → Int32} {n : (Nat → Nat → Int32)} {lm : Nat → Int64} {d : Nat} (hd : 0 ≤ d) {r : Option Value × qM} : ∀ (fu : Nat) (m : (Nat → Nat → Int32)) (x1 : Int32) (x2 : Int32) (x3 : Int32)  (m1 : (Nat → Nat → Int32)), FL_Ar_fill_55_5 fu m x1 x2 x3 = some m1 → (∀ (u2 : Option Value), q_Ev (qXT Ln xs) d 170 (20, [some (.ref 57), some (.int x1), u2, some (.int x3)], [], qMM m1 n lm) r) → q_Ev (qXT Ln xs) d 170 (5, [some (.ref 57), some (.int x1), some (.int x2), some (.int x3)], [], qMM m n lm) r := by
  intro fu
  induction fu with
  | zero => intro m x1 x2 x3 m1 h hk; cases h
  | succ fu ih =>
    intro m x1 x2 x3 m1 h hk
    rw [FL_Ar_fill_55_5] at h
    refine q_ev_run 2 (S' := (7, [some (.ref 57), some (.int x1), some (.int x2), some (.int x3)], [.int x3, .int x2], qMM m n lm)) rfl ?_
    by_cases hc1 : x3 ≤ x2
    · rw [if_pos hc1] at h
      refine q_ev_brT hc1 (a := 20) (b := 10) rfl ?_
      have h_z0 := Option.some.inj h
      subst h_z0
      exact hk (some (.int x2))
    · rw [if_neg hc1] at h
      refine q_ev_brF hc1 (a := 20) (b := 10) rfl ?_
      refine q_ev_run 3 (S' := (13, [some (.ref 57), some (.int x1), some (.int x2), some (.int x3)], [.int x1, .int x2, .ref 57], qMM m n lm)) rfl ?_
      obtain ⟨hb2, h⟩ := q_cd h
      refine q_ev_chk (b := q_in x2 256) hb2 (S' := (14, [some (.ref 57), some (.int x1), some (.int x2), some (.int x3)], [], qMM (q_w m 55 x2.toNatClampNeg x1) n lm)) rfl ?_
      refine q_ev_run 2 (S' := (5, [some (.ref 57), some (.int x1), some (.int (x2 + 1)), some (.int x3)], [], qMM (q_w m 55 x2.toNatClampNeg x1) n lm)) rfl ?_
      exact ih (q_w m 55 x2.toNatClampNeg x1) x1 (x2 + 1) x3 _ h hk
noncomputable def F_Ar_fill_55 (m : (Nat → Nat → Int32)) (a1 : Int32) : Option ((Nat → Nat → Int32)) :=
  Option.bind (FL_Ar_fill_55_5 qFU m a1 0 256) (fun m2 =>
    some (m2))
theorem T_Ar_fill_55 {Ln : Nat} {xs : Nat → Int32} {n : (Nat → Nat → Int32)} {lm : Nat → Int64} {d : Nat} (hd : 0 ≤ d) {m : (Nat → Nat → Int32)} {a1 : Int32} {m1 : (Nat → Nat → Int32)} (h : F_Ar_fill_55 m a1 = some m1) : q_Ev (qXT Ln xs) d 170 (0, [some (.ref 57), some (.int a1), none, none], [], qMM m n lm) (none, qMM m1 n lm) := by
  unfold F_Ar_fill_55 at h
  refine q_ev_run 5 (S' := (5, [some (.ref 57), some (.int a1), some (.int 0), some (.int 256)], [], qMM m n lm)) rfl ?_
  obtain ⟨m2, hl3, h⟩ := Option.bind_eq_some_iff.mp h
  try dsimp only at h
  refine TL_Ar_fill_55_5 (by first | omega | decide) _ m a1 0 256 _ hl3 (fun w1 => ?_)
  have h_z0 := Option.some.inj h
  subst h_z0
  exact q_ev_ret rfl rfl
noncomputable def FL_Gu_addHedgehog_52_21 : Nat → (Nat → Nat → Int32) → Int32 → Int32 → Int32 → Int32 → Option (Int32)
  | 0, _, _, _, _, _ => none
  | fu + 1, m, x1, x2, x3, x4 =>
    if x4 ≤ 0 then
      some (x3)
    else
      cond (q_in x4 256) (
        if m 54 x4.toNatClampNeg = 0 then
          FL_Gu_addHedgehog_52_21 fu m x1 x2 x3 (((x4 - 1) &&& x2) &&& x1)
        else
          cond (q_in (x2 ^^^ x4) 256) (FL_Gu_addHedgehog_52_21 fu m x1 x2 (x3 + m 55 ((x2 ^^^ x4)).toNatClampNeg) (((x4 - 1) &&& x2) &&& x1)) none
       ) none
theorem TL_Gu_addHedgehog_52_21 {Ln : Nat} {xs : Nat → Int32} {n : (Nat → Nat → Int32)} {lm : Nat → Int64} {d : Nat} (hd : 0 ≤ d) {r : Option Value × qM} : ∀ (fu : Nat) (m : (Nat → Nat → Int32)) (x1 : Int32) (x2 : Int32) (x3 : Int32) (x4 : Int32)  (y3 : Int32), FL_Gu_addHedgehog_52_21 fu m x1 x2 x3 x4 = some y3 → (∀ (u4 : Option Value), q_Ev (qXT Ln xs) d 6 (61, [some (.ref 54), some (.int x1), some (.int x2), some (.int y3), u4], [], qMM m n lm) r) → q_Ev (qXT Ln xs) d 6 (21, [some (.ref 54), some (.int x1), some (.int x2), some (.int x3), some (.int x4)], [], qMM m n lm) r := by
  intro fu
  induction fu with
  | zero => intro m x1 x2 x3 x4 y3 h hk; cases h
  | succ fu ih =>
    intro m x1 x2 x3 x4 y3 h hk
    rw [FL_Gu_addHedgehog_52_21] at h
    refine q_ev_run 1 (S' := (23, [some (.ref 54), some (.int x1), some (.int x2), some (.int x3), some (.int x4)], [.int x4], qMM m n lm)) rfl ?_
    by_cases hc1 : x4 ≤ 0
    · rw [if_pos hc1] at h
      refine q_ev_brT hc1 (a := 61) (b := 26) rfl ?_
      have h_z0 := Option.some.inj h
      subst h_z0
      exact hk (some (.int x4))
    · rw [if_neg hc1] at h
      refine q_ev_brF hc1 (a := 61) (b := 26) rfl ?_
      refine q_ev_run 3 (S' := (32, [some (.ref 54), some (.int x1), some (.int x2), some (.int x3), some (.int x4)], [.int x4, .ref 56], qMM m n lm)) rfl ?_
      obtain ⟨hb2, h⟩ := q_cd h
      refine q_ev_chk (b := q_in x4 256) hb2 (S' := (33, [some (.ref 54), some (.int x1), some (.int x2), some (.int x3), some (.int x4)], [.int (m 54 x4.toNatClampNeg)], qMM m n lm)) rfl ?_
      by_cases hc3 : m 54 x4.toNatClampNeg = 0
      · rw [if_pos hc3] at h
        refine q_ev_brT hc3 (a := 48) (b := 36) rfl ?_
        refine q_ev_run 9 (S' := (21, [some (.ref 54), some (.int x1), some (.int x2), some (.int x3), some (.int (((x4 - 1) &&& x2) &&& x1))], [], qMM m n lm)) rfl ?_
        exact ih m x1 x2 x3 (((x4 - 1) &&& x2) &&& x1) _ h hk
      · rw [if_neg hc3] at h
        refine q_ev_brF hc3 (a := 48) (b := 36) rfl ?_
        refine q_ev_run 6 (S' := (45, [some (.ref 54), some (.int x1), some (.int x2), some (.int x3), some (.int x4)], [.int (x2 ^^^ x4), .ref 57, .int x3], qMM m n lm)) rfl ?_
        obtain ⟨hb4, h⟩ := q_cd h
        refine q_ev_chk (b := q_in (x2 ^^^ x4) 256) hb4 (S' := (46, [some (.ref 54), some (.int x1), some (.int x2), some (.int x3), some (.int x4)], [.int (m 55 ((x2 ^^^ x4)).toNatClampNeg), .int x3], qMM m n lm)) rfl ?_
        refine q_ev_run 11 (S' := (21, [some (.ref 54), some (.int x1), some (.int x2), some (.int (x3 + m 55 ((x2 ^^^ x4)).toNatClampNeg)), some (.int (((x4 - 1) &&& x2) &&& x1))], [], qMM m n lm)) rfl ?_
        exact ih m x1 x2 (x3 + m 55 ((x2 ^^^ x4)).toNatClampNeg) (((x4 - 1) &&& x2) &&& x1) _ h hk
noncomputable def FL_Gu_addHedgehog_52_5 : Nat → (Nat → Nat → Int32) → Int32 → Int32 → Option ((Nat → Nat → Int32))
  | 0, _, _, _ => none
  | fu + 1, m, x1, x2 =>
    if x2 ≤ 0 then
      some (m)
    else
      cond (q_in x2 256) (
        Option.bind (FL_Gu_addHedgehog_52_21 qFU m x1 x2 (m 55 x2.toNatClampNeg) (x2 &&& x1)) (fun y3 =>
          cond (q_in x2 256) (FL_Gu_addHedgehog_52_5 fu (q_w m 55 x2.toNatClampNeg y3) x1 (x2 + (Int32.ofInt (-1)))) none)
       ) none
theorem TL_Gu_addHedgehog_52_5 {Ln : Nat} {xs : Nat → Int32} {n : (Nat → Nat → Int32)} {lm : Nat → Int64} {d : Nat} (hd : 0 ≤ d) {r : Option Value × qM} : ∀ (fu : Nat) (m : (Nat → Nat → Int32)) (x1 : Int32) (x2 : Int32) (w3 : Option Value) (w4 : Option Value) (m1 : (Nat → Nat → Int32)), FL_Gu_addHedgehog_52_5 fu m x1 x2 = some m1 → (∀ (u2 u3 u4 : Option Value), q_Ev (qXT Ln xs) d 6 (74, [some (.ref 54), some (.int x1), u2, u3, u4], [], qMM m1 n lm) r) → q_Ev (qXT Ln xs) d 6 (5, [some (.ref 54), some (.int x1), some (.int x2), w3, w4], [], qMM m n lm) r := by
  intro fu
  induction fu with
  | zero => intro m x1 x2 w3 w4 m1 h hk; cases h
  | succ fu ih =>
    intro m x1 x2 w3 w4 m1 h hk
    rw [FL_Gu_addHedgehog_52_5] at h
    refine q_ev_run 1 (S' := (6, [some (.ref 54), some (.int x1), some (.int x2), w3, w4], [.int x2], qMM m n lm)) rfl ?_
    by_cases hc1 : x2 ≤ 0
    · rw [if_pos hc1] at h
      refine q_ev_brT hc1 (a := 74) (b := 9) rfl ?_
      have h_z0 := Option.some.inj h
      subst h_z0
      exact hk (some (.int x2)) (w3) (w4)
    · rw [if_neg hc1] at h
      refine q_ev_brF hc1 (a := 74) (b := 9) rfl ?_
      refine q_ev_run 3 (S' := (14, [some (.ref 54), some (.int x1), some (.int x2), w3, w4], [.int x2, .ref 57], qMM m n lm)) rfl ?_
      obtain ⟨hb2, h⟩ := q_cd h
      refine q_ev_chk (b := q_in x2 256) hb2 (S' := (15, [some (.ref 54), some (.int x1), some (.int x2), w3, w4], [.int (m 55 x2.toNatClampNeg)], qMM m n lm)) rfl ?_
      refine q_ev_run 5 (S' := (21, [some (.ref 54), some (.int x1), some (.int x2), some (.int (m 55 x2.toNatClampNeg)), some (.int (x2 &&& x1))], [], qMM m n lm)) rfl ?_
      obtain ⟨y3, hl5, h⟩ := Option.bind_eq_some_iff.mp h
      try dsimp only at h
      refine TL_Gu_addHedgehog_52_21 (by first | omega | decide) _ m x1 x2 (m 55 x2.toNatClampNeg) (x2 &&& x1) _ hl5 (fun w4 => ?_)
      refine q_ev_run 4 (S' := (67, [some (.ref 54), some (.int x1), some (.int x2), some (.int y3), w4], [.int y3, .int x2, .ref 57], qMM m n lm)) rfl ?_
      obtain ⟨hb6, h⟩ := q_cd h
      refine q_ev_chk (b := q_in x2 256) hb6 (S' := (68, [some (.ref 54), some (.int x1), some (.int x2), some (.int y3), w4], [], qMM (q_w m 55 x2.toNatClampNeg y3) n lm)) rfl ?_
      refine q_ev_run 2 (S' := (5, [some (.ref 54), some (.int x1), some (.int (x2 + (Int32.ofInt (-1)))), some (.int y3), w4], [], qMM (q_w m 55 x2.toNatClampNeg y3) n lm)) rfl ?_
      exact ih (q_w m 55 x2.toNatClampNeg y3) x1 (x2 + (Int32.ofInt (-1))) (some (.int y3)) (w4) _ h hk
noncomputable def F_Gu_addHedgehog_52 (m : (Nat → Nat → Int32)) (a1 : Int32) : Option ((Nat → Nat → Int32)) :=
  Option.bind (FL_Gu_addHedgehog_52_5 qFU m a1 (m 52 1)) (fun m4 =>
    some (m4))
theorem T_Gu_addHedgehog_52 {Ln : Nat} {xs : Nat → Int32} {n : (Nat → Nat → Int32)} {lm : Nat → Int64} {d : Nat} (hd : 0 ≤ d) {m : (Nat → Nat → Int32)} {a1 : Int32} {m1 : (Nat → Nat → Int32)} (h : F_Gu_addHedgehog_52 m a1 = some m1) : q_Ev (qXT Ln xs) d 6 (0, [some (.ref 54), some (.int a1), none, none, none], [], qMM m n lm) (none, qMM m1 n lm) := by
  unfold F_Gu_addHedgehog_52 at h
  refine q_ev_run 3 (S' := (5, [some (.ref 54), some (.int a1), some (.int (m 52 1)), none, none], [], qMM m n lm)) rfl ?_
  obtain ⟨m4, hl5, h⟩ := Option.bind_eq_some_iff.mp h
  try dsimp only at h
  refine TL_Gu_addHedgehog_52_5 (by first | omega | decide) _ m a1 (m 52 1) (none) (none) _ hl5 (fun w1 w2 w3 => ?_)
  have h_z0 := Option.some.inj h
  subst h_z0
  exact q_ev_ret rfl rfl
noncomputable def FL_Gu_waysKeeping_52_17 : Nat → (Nat → Nat → Int32) → Int32 → Int32 → Int32 → Option ((Nat → Nat → Int32))
  | 0, _, _, _, _ => none
  | fu + 1, m, x1, x2, x3 =>
    if m 52 0 ≤ x3 then
      some (m)
    else
      if x3 = x2 then
        cond (q_in x3 5) (
          Option.bind (F_Gu_addHedgehog_52 m (m 53 x3.toNatClampNeg)) (fun m4 =>
            FL_Gu_waysKeeping_52_17 fu m4 x1 x2 (x3 + 1))
         ) none
      else
        cond (q_in x3 5) (
          Option.bind (F_Gu_addHedgehog_52 m (m 53 x3.toNatClampNeg &&& (x1 ^^^ (Int32.ofInt (-1))))) (fun m7 =>
            FL_Gu_waysKeeping_52_17 fu m7 x1 x2 (x3 + 1))
         ) none
theorem TL_Gu_waysKeeping_52_17 {Ln : Nat} {xs : Nat → Int32} {n : (Nat → Nat → Int32)} {lm : Nat → Int64} {d : Nat} (hd : 1 ≤ d) {r : Option Value × qM} : ∀ (fu : Nat) (m : (Nat → Nat → Int32)) (x1 : Int32) (x2 : Int32) (x3 : Int32)  (m1 : (Nat → Nat → Int32)), FL_Gu_waysKeeping_52_17 fu m x1 x2 x3 = some m1 → (∀ (u3 : Option Value), q_Ev (qXT Ln xs) d 5 (59, [some (.ref 54), some (.int x1), some (.int x2), u3], [], qMM m1 n lm) r) → q_Ev (qXT Ln xs) d 5 (17, [some (.ref 54), some (.int x1), some (.int x2), some (.int x3)], [], qMM m n lm) r := by
  intro fu
  induction fu with
  | zero => intro m x1 x2 x3 m1 h hk; cases h
  | succ fu ih =>
    intro m x1 x2 x3 m1 h hk
    rw [FL_Gu_waysKeeping_52_17] at h
    refine q_ev_run 3 (S' := (22, [some (.ref 54), some (.int x1), some (.int x2), some (.int x3)], [.int (m 52 0), .int x3], qMM m n lm)) rfl ?_
    by_cases hc1 : m 52 0 ≤ x3
    · rw [if_pos hc1] at h
      refine q_ev_brT hc1 (a := 59) (b := 25) rfl ?_
      have h_z0 := Option.some.inj h
      subst h_z0
      exact hk (some (.int x3))
    · rw [if_neg hc1] at h
      refine q_ev_brF hc1 (a := 59) (b := 25) rfl ?_
      refine q_ev_run 3 (S' := (28, [some (.ref 54), some (.int x1), some (.int x2), some (.int x3)], [.int x2, .int x3, .ref 54], qMM m n lm)) rfl ?_
      by_cases hc2 : x3 = x2
      · rw [if_pos hc2] at h
        refine q_ev_brT hc2 (a := 31) (b := 40) rfl ?_
        refine q_ev_run 3 (S' := (36, [some (.ref 54), some (.int x1), some (.int x2), some (.int x3)], [.int x3, .ref 55, .ref 54], qMM m n lm)) rfl ?_
        obtain ⟨hb3, h⟩ := q_cd h
        refine q_ev_chk (b := q_in x3 5) hb3 (S' := (37, [some (.ref 54), some (.int x1), some (.int x2), some (.int x3)], [.int (m 53 x3.toNatClampNeg), .ref 54], qMM m n lm)) rfl ?_
        refine q_ev_run 1 (S' := (50, [some (.ref 54), some (.int x1), some (.int x2), some (.int x3)], [.int (m 53 x3.toNatClampNeg), .ref 54], qMM m n lm)) rfl ?_
        obtain ⟨m4, hf5, h⟩ := Option.bind_eq_some_iff.mp h
        try dsimp only at h
        refine q_ev_call (S' := (53, [some (.ref 54), some (.int x1), some (.int x2), some (.int x3)], [], qMM m n lm)) rfl (by omega) (T_Gu_addHedgehog_52 (by first | omega | decide) hf5) ?_
        refine q_ev_eq (S' := (53, [some (.ref 54), some (.int x1), some (.int x2), some (.int x3)], [], qMM m4 n lm)) rfl ?_
        refine q_ev_run 2 (S' := (17, [some (.ref 54), some (.int x1), some (.int x2), some (.int (x3 + 1))], [], qMM m4 n lm)) rfl ?_
        exact ih m4 x1 x2 (x3 + 1) _ h hk
      · rw [if_neg hc2] at h
        refine q_ev_brF hc2 (a := 31) (b := 40) rfl ?_
        refine q_ev_run 3 (S' := (45, [some (.ref 54), some (.int x1), some (.int x2), some (.int x3)], [.int x3, .ref 55, .ref 54], qMM m n lm)) rfl ?_
        obtain ⟨hb6, h⟩ := q_cd h
        refine q_ev_chk (b := q_in x3 5) hb6 (S' := (46, [some (.ref 54), some (.int x1), some (.int x2), some (.int x3)], [.int (m 53 x3.toNatClampNeg), .ref 54], qMM m n lm)) rfl ?_
        refine q_ev_run 4 (S' := (50, [some (.ref 54), some (.int x1), some (.int x2), some (.int x3)], [.int (m 53 x3.toNatClampNeg &&& (x1 ^^^ (Int32.ofInt (-1)))), .ref 54], qMM m n lm)) rfl ?_
        obtain ⟨m7, hf8, h⟩ := Option.bind_eq_some_iff.mp h
        try dsimp only at h
        refine q_ev_call (S' := (53, [some (.ref 54), some (.int x1), some (.int x2), some (.int x3)], [], qMM m n lm)) rfl (by omega) (T_Gu_addHedgehog_52 (by first | omega | decide) hf8) ?_
        refine q_ev_eq (S' := (53, [some (.ref 54), some (.int x1), some (.int x2), some (.int x3)], [], qMM m7 n lm)) rfl ?_
        refine q_ev_run 2 (S' := (17, [some (.ref 54), some (.int x1), some (.int x2), some (.int (x3 + 1))], [], qMM m7 n lm)) rfl ?_
        exact ih m7 x1 x2 (x3 + 1) _ h hk
noncomputable def F_Gu_waysKeeping_52 (m : (Nat → Nat → Int32)) (a1 : Int32) (a2 : Int32) : Option (Int32 × (Nat → Nat → Int32)) :=
  Option.bind (F_Ar_fill_55 m 0) (fun m1 =>
    Option.bind (FL_Gu_waysKeeping_52_17 qFU (q_w m1 55 0 1) a1 a2 0) (fun m4 =>
      cond (q_in (m4 52 1) 256) (some (m4 55 (m4 52 1).toNatClampNeg, m4)) none))
theorem T_Gu_waysKeeping_52 {Ln : Nat} {xs : Nat → Int32} {n : (Nat → Nat → Int32)} {lm : Nat → Int64} {d : Nat} (hd : 1 ≤ d) {m : (Nat → Nat → Int32)} {a1 : Int32} {a2 : Int32} {rv : Int32} {m1 : (Nat → Nat → Int32)} (h : F_Gu_waysKeeping_52 m a1 a2 = some (rv, m1)) : q_Ev (qXT Ln xs) d 5 (0, [some (.ref 54), some (.int a1), some (.int a2), none], [], qMM m n lm) (some (.int rv), qMM m1 n lm) := by
  unfold F_Gu_waysKeeping_52 at h
  refine q_ev_run 3 (S' := (5, [some (.ref 54), some (.int a1), some (.int a2), none], [.int 0, .ref 57], qMM m n lm)) rfl ?_
  obtain ⟨m1, hf2, h⟩ := Option.bind_eq_some_iff.mp h
  try dsimp only at h
  refine q_ev_call (S' := (8, [some (.ref 54), some (.int a1), some (.int a2), none], [], qMM m n lm)) rfl (by omega) (T_Ar_fill_55 (by first | omega | decide) hf2) ?_
  refine q_ev_eq (S' := (8, [some (.ref 54), some (.int a1), some (.int a2), none], [], qMM m1 n lm)) rfl ?_
  refine q_ev_run 7 (S' := (17, [some (.ref 54), some (.int a1), some (.int a2), some (.int 0)], [], qMM (q_w m1 55 0 1) n lm)) rfl ?_
  obtain ⟨m4, hl5, h⟩ := Option.bind_eq_some_iff.mp h
  try dsimp only at h
  refine TL_Gu_waysKeeping_52_17 (by first | omega | decide) _ (q_w m1 55 0 1) a1 a2 0 _ hl5 (fun w3 => ?_)
  refine q_ev_run 4 (S' := (67, [some (.ref 54), some (.int a1), some (.int a2), w3], [.int (m4 52 1), .ref 57], qMM m4 n lm)) rfl ?_
  obtain ⟨hb6, h⟩ := q_cd h
  refine q_ev_chk (b := q_in (m4 52 1) 256) hb6 (S' := (68, [some (.ref 54), some (.int a1), some (.int a2), w3], [.int (m4 55 (m4 52 1).toNatClampNeg)], qMM m4 n lm)) rfl ?_
  have h_z0 := Option.some.inj h
  obtain ⟨h_0, h_z1⟩ := Prod.mk.inj h_z0
  subst h_0
  subst h_z1
  exact q_ev_ret rfl rfl
noncomputable def F_Gu_waysInAll_52 (m : (Nat → Nat → Int32)) : Option (Int32 × (Nat → Nat → Int32)) :=
  Option.bind (F_Gu_waysKeeping_52 m 0 0) (fun (r1, m2) =>
    some (r1, m2))
theorem T_Gu_waysInAll_52 {Ln : Nat} {xs : Nat → Int32} {n : (Nat → Nat → Int32)} {lm : Nat → Int64} {d : Nat} (hd : 2 ≤ d) {m : (Nat → Nat → Int32)} {rv : Int32} {m1 : (Nat → Nat → Int32)} (h : F_Gu_waysInAll_52 m = some (rv, m1)) : q_Ev (qXT Ln xs) d 3 (0, [some (.ref 54)], [], qMM m n lm) (some (.int rv), qMM m1 n lm) := by
  unfold F_Gu_waysInAll_52 at h
  refine q_ev_run 3 (S' := (3, [some (.ref 54)], [.int 0, .int 0, .ref 54], qMM m n lm)) rfl ?_
  obtain ⟨⟨r1, m2⟩, hf3, h⟩ := Option.bind_eq_some_iff.mp h
  try dsimp only at h
  refine q_ev_call (S' := (6, [some (.ref 54)], [], qMM m n lm)) rfl (by omega) (T_Gu_waysKeeping_52 (by first | omega | decide) hf3) ?_
  refine q_ev_eq (S' := (6, [some (.ref 54)], [.int r1], qMM m2 n lm)) rfl ?_
  have h_z0 := Option.some.inj h
  obtain ⟨h_0, h_z1⟩ := Prod.mk.inj h_z0
  subst h_0
  subst h_z1
  exact q_ev_ret rfl rfl
noncomputable def F_AT_fits (m : (Nat → Nat → Int32)) : Option (Int32 × (Nat → Nat → Int32)) :=
  Option.bind (F_Gu_prepare_52_9_39_21 m) (fun m1 =>
    Option.bind (F_Gu_waysInAll_52 m1) (fun (r3, m4) =>
      some (r3, m4)))
theorem T_AT_fits {Ln : Nat} {xs : Nat → Int32} {n : (Nat → Nat → Int32)} {lm : Nat → Int64} {d : Nat} (hd : 3 ≤ d) {m : (Nat → Nat → Int32)} {rv : Int32} {m1 : (Nat → Nat → Int32)} (h : F_AT_fits m = some (rv, m1)) : q_Ev (qXT Ln xs) d 86 (0, [some (.ref 0)], [], qMM m n lm) (some (.int rv), qMM m1 n lm) := by
  unfold F_AT_fits at h
  refine q_ev_run 9 (S' := (19, [some (.ref 0)], [.ref 23, .ref 41, .ref 11, .ref 54], qMM m n lm)) rfl ?_
  obtain ⟨m1, hf2, h⟩ := Option.bind_eq_some_iff.mp h
  try dsimp only at h
  refine q_ev_call (S' := (22, [some (.ref 0)], [], qMM m n lm)) rfl (by omega) (T_Gu_prepare_52_9_39_21 (by first | omega | decide) hf2) ?_
  refine q_ev_eq (S' := (22, [some (.ref 0)], [], qMM m1 n lm)) rfl ?_
  refine q_ev_run 2 (S' := (26, [some (.ref 0)], [.ref 54], qMM m1 n lm)) rfl ?_
  obtain ⟨⟨r3, m4⟩, hf5, h⟩ := Option.bind_eq_some_iff.mp h
  try dsimp only at h
  refine q_ev_call (S' := (29, [some (.ref 0)], [], qMM m1 n lm)) rfl (by omega) (T_Gu_waysInAll_52 (by first | omega | decide) hf5) ?_
  refine q_ev_eq (S' := (29, [some (.ref 0)], [.int r3], qMM m4 n lm)) rfl ?_
  have h_z0 := Option.some.inj h
  obtain ⟨h_0, h_z1⟩ := Prod.mk.inj h_z0
  subst h_0
  subst h_z1
  exact q_ev_ret rfl rfl
noncomputable def FL_Mo_ways_6 : Nat → (Nat → Nat → Int32) → Int32 → Option ((Nat → Nat → Int32))
  | 0, _, _ => none
  | fu + 1, m, x1 =>
    if 8 ≤ x1 then
      some (m)
    else
      cond (q_in x1 8) (cond (q_in x1 8) (FL_Mo_ways_6 fu (q_w (q_w m 67 x1.toNatClampNeg (Int32.ofInt (-1))) 69 x1.toNatClampNeg 0) (x1 + 1)) none) none
theorem TL_Mo_ways_6 {Ln : Nat} {xs : Nat → Int32} {n : (Nat → Nat → Int32)} {lm : Nat → Int64} {d : Nat} (hd : 0 ≤ d) {r : Option Value × qM} : ∀ (fu : Nat) (m : (Nat → Nat → Int32)) (x1 : Int32) (w2 : Option Value) (w3 : Option Value) (m1 : (Nat → Nat → Int32)), FL_Mo_ways_6 fu m x1 = some m1 → (∀ (u1 u2 u3 : Option Value), q_Ev (qXT Ln xs) d 158 (32, [some (.ref 58), u1, u2, u3], [], qMM n m1 lm) r) → q_Ev (qXT Ln xs) d 158 (6, [some (.ref 58), some (.int x1), w2, w3], [], qMM n m lm) r := by
  intro fu
  induction fu with
  | zero => intro m x1 w2 w3 m1 h hk; cases h
  | succ fu ih =>
    intro m x1 w2 w3 m1 h hk
    rw [FL_Mo_ways_6] at h
    refine q_ev_run 2 (S' := (9, [some (.ref 58), some (.int x1), w2, w3], [.int 8, .int x1], qMM n m lm)) rfl ?_
    by_cases hc1 : 8 ≤ x1
    · rw [if_pos hc1] at h
      refine q_ev_brT hc1 (a := 32) (b := 12) rfl ?_
      have h_z0 := Option.some.inj h
      subst h_z0
      exact hk (some (.int x1)) (w2) (w3)
    · rw [if_neg hc1] at h
      refine q_ev_brF hc1 (a := 32) (b := 12) rfl ?_
      refine q_ev_run 4 (S' := (18, [some (.ref 58), some (.int x1), w2, w3], [.int (Int32.ofInt (-1)), .int x1, .ref 69], qMM n m lm)) rfl ?_
      obtain ⟨hb2, h⟩ := q_cd h
      refine q_ev_chk (b := q_in x1 8) hb2 (S' := (19, [some (.ref 58), some (.int x1), w2, w3], [], qMM n (q_w m 67 x1.toNatClampNeg (Int32.ofInt (-1))) lm)) rfl ?_
      refine q_ev_run 4 (S' := (25, [some (.ref 58), some (.int x1), w2, w3], [.int 0, .int x1, .ref 71], qMM n (q_w m 67 x1.toNatClampNeg (Int32.ofInt (-1))) lm)) rfl ?_
      obtain ⟨hb3, h⟩ := q_cd h
      refine q_ev_chk (b := q_in x1 8) hb3 (S' := (26, [some (.ref 58), some (.int x1), w2, w3], [], qMM n (q_w (q_w m 67 x1.toNatClampNeg (Int32.ofInt (-1))) 69 x1.toNatClampNeg 0) lm)) rfl ?_
      refine q_ev_run 2 (S' := (6, [some (.ref 58), some (.int (x1 + 1)), w2, w3], [], qMM n (q_w (q_w m 67 x1.toNatClampNeg (Int32.ofInt (-1))) 69 x1.toNatClampNeg 0) lm)) rfl ?_
      exact ih (q_w (q_w m 67 x1.toNatClampNeg (Int32.ofInt (-1))) 69 x1.toNatClampNeg 0) (x1 + 1) (w2) (w3) _ h hk
noncomputable def FL_Mo_isThere_5 : Nat → (Nat → Nat → Int32) → Int32 → Int32 → Int32 → Option (Int32)
  | 0, _, _, _, _ => none
  | fu + 1, m, x1, x2, x3 =>
    if x1 ≤ x3 then
      some (x2)
    else
      cond (q_in x3 8) (
        cond (q_in x1 8) (
          if m 67 x3.toNatClampNeg = m 67 x1.toNatClampNeg then
            FL_Mo_isThere_5 fu m x1 x3 (x3 + 1)
          else
            FL_Mo_isThere_5 fu m x1 x2 (x3 + 1)
         ) none
       ) none
theorem TL_Mo_isThere_5 {Ln : Nat} {xs : Nat → Int32} {n : (Nat → Nat → Int32)} {lm : Nat → Int64} {d : Nat} (hd : 0 ≤ d) {r : Option Value × qM} : ∀ (fu : Nat) (m : (Nat → Nat → Int32)) (x1 : Int32) (x2 : Int32) (x3 : Int32)  (y2 : Int32), FL_Mo_isThere_5 fu m x1 x2 x3 = some y2 → (∀ (u3 : Option Value), q_Ev (qXT Ln xs) d 159 (37, [some (.ref 58), some (.int x1), some (.int y2), u3], [], qMM n m lm) r) → q_Ev (qXT Ln xs) d 159 (5, [some (.ref 58), some (.int x1), some (.int x2), some (.int x3)], [], qMM n m lm) r := by
  intro fu
  induction fu with
  | zero => intro m x1 x2 x3 y2 h hk; cases h
  | succ fu ih =>
    intro m x1 x2 x3 y2 h hk
    rw [FL_Mo_isThere_5] at h
    refine q_ev_run 2 (S' := (7, [some (.ref 58), some (.int x1), some (.int x2), some (.int x3)], [.int x1, .int x3], qMM n m lm)) rfl ?_
    by_cases hc1 : x1 ≤ x3
    · rw [if_pos hc1] at h
      refine q_ev_brT hc1 (a := 37) (b := 10) rfl ?_
      have h_z0 := Option.some.inj h
      subst h_z0
      exact hk (some (.int x3))
    · rw [if_neg hc1] at h
      refine q_ev_brF hc1 (a := 37) (b := 10) rfl ?_
      refine q_ev_run 3 (S' := (15, [some (.ref 58), some (.int x1), some (.int x2), some (.int x3)], [.int x3, .ref 69], qMM n m lm)) rfl ?_
      obtain ⟨hb2, h⟩ := q_cd h
      refine q_ev_chk (b := q_in x3 8) hb2 (S' := (16, [some (.ref 58), some (.int x1), some (.int x2), some (.int x3)], [.int (m 67 x3.toNatClampNeg)], qMM n m lm)) rfl ?_
      refine q_ev_run 3 (S' := (21, [some (.ref 58), some (.int x1), some (.int x2), some (.int x3)], [.int x1, .ref 69, .int (m 67 x3.toNatClampNeg)], qMM n m lm)) rfl ?_
      obtain ⟨hb3, h⟩ := q_cd h
      refine q_ev_chk (b := q_in x1 8) hb3 (S' := (22, [some (.ref 58), some (.int x1), some (.int x2), some (.int x3)], [.int (m 67 x1.toNatClampNeg), .int (m 67 x3.toNatClampNeg)], qMM n m lm)) rfl ?_
      by_cases hc4 : m 67 x3.toNatClampNeg = m 67 x1.toNatClampNeg
      · rw [if_pos hc4] at h
        refine q_ev_brT hc4 (a := 25) (b := 29) rfl ?_
        refine q_ev_run 5 (S' := (5, [some (.ref 58), some (.int x1), some (.int x3), some (.int (x3 + 1))], [], qMM n m lm)) rfl ?_
        exact ih m x1 x3 (x3 + 1) _ h hk
      · rw [if_neg hc4] at h
        refine q_ev_brF hc4 (a := 25) (b := 29) rfl ?_
        refine q_ev_run 4 (S' := (5, [some (.ref 58), some (.int x1), some (.int x2), some (.int (x3 + 1))], [], qMM n m lm)) rfl ?_
        exact ih m x1 x2 (x3 + 1) _ h hk
noncomputable def FL_Mo_canBe_49 : Nat → (Nat → Nat → Int32) → Int32 → Int32 → Int32 → Int32 → Int32 → Option (Int32)
  | 0, _, _, _, _, _, _ => none
  | fu + 1, m, x2, x3, x4, x5, x6 =>
    if 4 ≤ x6 then
      some (x5)
    else
      if m 58 5 ≤ 0 then
        if x5 = 0 then
          FL_Mo_canBe_49 fu m x2 x3 x4 0 (x6 + 1)
        else
          if 0 < (((x3 &&& (x4 ^^^ (Int32.ofInt (-1)))) >>> (x6 &&& 31)) &&& 1) then
            FL_Mo_canBe_49 fu m x2 x3 x4 0 (x6 + 1)
          else
            FL_Mo_canBe_49 fu m x2 x3 x4 1 (x6 + 1)
      else
        cond (q_in x2 8) (
          if m 66 x2.toNatClampNeg < (m 58 5 * (x6 + 1)) then
            if x5 = 0 then
              FL_Mo_canBe_49 fu m x2 x3 x4 0 (x6 + 1)
            else
              if 0 < (((x3 &&& (x4 ^^^ (Int32.ofInt (-1)))) >>> (x6 &&& 31)) &&& 1) then
                FL_Mo_canBe_49 fu m x2 x3 x4 0 (x6 + 1)
              else
                FL_Mo_canBe_49 fu m x2 x3 x4 1 (x6 + 1)
          else
            if x5 = 0 then
              FL_Mo_canBe_49 fu m x2 x3 x4 0 (x6 + 1)
            else
              if 1 < (((x3 &&& (x4 ^^^ (Int32.ofInt (-1)))) >>> (x6 &&& 31)) &&& 1) then
                FL_Mo_canBe_49 fu m x2 x3 x4 0 (x6 + 1)
              else
                FL_Mo_canBe_49 fu m x2 x3 x4 1 (x6 + 1)
         ) none
theorem TL_Mo_canBe_49 {Ln : Nat} {xs : Nat → Int32} {n : (Nat → Nat → Int32)} {lm : Nat → Int64} {d : Nat} (hd : 0 ≤ d) {r : Option Value × qM} : ∀ (fu : Nat) (m : (Nat → Nat → Int32)) (x2 : Int32) (x3 : Int32) (x4 : Int32) (x5 : Int32) (x6 : Int32) (w1 : Option Value) (w7 : Option Value) (y5 : Int32), FL_Mo_canBe_49 fu m x2 x3 x4 x5 x6 = some y5 → (∀ (u1 u6 u7 : Option Value), q_Ev (qXT Ln xs) d 157 (133, [some (.ref 58), u1, some (.int x2), some (.int x3), some (.int x4), some (.int y5), u6, u7], [], qMM n m lm) r) → q_Ev (qXT Ln xs) d 157 (49, [some (.ref 58), w1, some (.int x2), some (.int x3), some (.int x4), some (.int x5), some (.int x6), w7], [], qMM n m lm) r := by
  intro fu
  induction fu with
  | zero => intro m x2 x3 x4 x5 x6 w1 w7 y5 h hk; cases h
  | succ fu ih =>
    intro m x2 x3 x4 x5 x6 w1 w7 y5 h hk
    rw [FL_Mo_canBe_49] at h
    refine q_ev_run 2 (S' := (52, [some (.ref 58), w1, some (.int x2), some (.int x3), some (.int x4), some (.int x5), some (.int x6), w7], [.int 4, .int x6], qMM n m lm)) rfl ?_
    by_cases hc1 : 4 ≤ x6
    · rw [if_pos hc1] at h
      refine q_ev_brT hc1 (a := 133) (b := 55) rfl ?_
      have h_z0 := Option.some.inj h
      subst h_z0
      exact hk (w1) (some (.int x6)) (w7)
    · rw [if_neg hc1] at h
      refine q_ev_brF hc1 (a := 133) (b := 55) rfl ?_
      refine q_ev_run 4 (S' := (61, [some (.ref 58), w1, some (.int x2), some (.int x3), some (.int x4), some (.int x5), some (.int x6), w7], [.int (m 58 5)], qMM n m lm)) rfl ?_
      by_cases hc2 : m 58 5 ≤ 0
      · rw [if_pos hc2] at h
        refine q_ev_brT hc2 (a := 88) (b := 64) rfl ?_
        refine q_ev_run 3 (S' := (93, [some (.ref 58), w1, some (.int x2), some (.int x3), some (.int x4), some (.int x5), some (.int x6), some (.int 0)], [.int x5], qMM n m lm)) rfl ?_
        by_cases hc3 : x5 = 0
        · rw [if_pos hc3] at h
          refine q_ev_brT hc3 (a := 124) (b := 96) rfl ?_
          refine q_ev_run 4 (S' := (49, [some (.ref 58), w1, some (.int x2), some (.int x3), some (.int x4), some (.int 0), some (.int (x6 + 1)), some (.int 0)], [], qMM n m lm)) rfl ?_
          exact ih m x2 x3 x4 0 (x6 + 1) (w1) (some (.int 0)) _ h hk
        · rw [if_neg hc3] at h
          refine q_ev_brF hc3 (a := 124) (b := 96) rfl ?_
          refine q_ev_run 12 (S' := (117, [some (.ref 58), w1, some (.int x2), some (.int x3), some (.int x4), some (.int x5), some (.int x6), some (.int 0)], [.int 0, .int (((x3 &&& (x4 ^^^ (Int32.ofInt (-1)))) >>> (x6 &&& 31)) &&& 1)], qMM n m lm)) rfl ?_
          by_cases hc4 : 0 < (((x3 &&& (x4 ^^^ (Int32.ofInt (-1)))) >>> (x6 &&& 31)) &&& 1)
          · rw [if_pos hc4] at h
            refine q_ev_brT hc4 (a := 124) (b := 120) rfl ?_
            refine q_ev_run 4 (S' := (49, [some (.ref 58), w1, some (.int x2), some (.int x3), some (.int x4), some (.int 0), some (.int (x6 + 1)), some (.int 0)], [], qMM n m lm)) rfl ?_
            exact ih m x2 x3 x4 0 (x6 + 1) (w1) (some (.int 0)) _ h hk
          · rw [if_neg hc4] at h
            refine q_ev_brF hc4 (a := 124) (b := 120) rfl ?_
            refine q_ev_run 5 (S' := (49, [some (.ref 58), w1, some (.int x2), some (.int x3), some (.int x4), some (.int 1), some (.int (x6 + 1)), some (.int 0)], [], qMM n m lm)) rfl ?_
            exact ih m x2 x3 x4 1 (x6 + 1) (w1) (some (.int 0)) _ h hk
      · rw [if_neg hc2] at h
        refine q_ev_brF hc2 (a := 88) (b := 64) rfl ?_
        refine q_ev_run 3 (S' := (69, [some (.ref 58), w1, some (.int x2), some (.int x3), some (.int x4), some (.int x5), some (.int x6), w7], [.int x2, .ref 68], qMM n m lm)) rfl ?_
        obtain ⟨hb5, h⟩ := q_cd h
        refine q_ev_chk (b := q_in x2 8) hb5 (S' := (70, [some (.ref 58), w1, some (.int x2), some (.int x3), some (.int x4), some (.int x5), some (.int x6), w7], [.int (m 66 x2.toNatClampNeg)], qMM n m lm)) rfl ?_
        refine q_ev_run 8 (S' := (81, [some (.ref 58), w1, some (.int x2), some (.int x3), some (.int x4), some (.int x5), some (.int x6), w7], [.int (m 58 5 * (x6 + 1)), .int (m 66 x2.toNatClampNeg)], qMM n m lm)) rfl ?_
        by_cases hc6 : m 66 x2.toNatClampNeg < (m 58 5 * (x6 + 1))
        · rw [if_pos hc6] at h
          refine q_ev_brT hc6 (a := 88) (b := 84) rfl ?_
          refine q_ev_run 3 (S' := (93, [some (.ref 58), w1, some (.int x2), some (.int x3), some (.int x4), some (.int x5), some (.int x6), some (.int 0)], [.int x5], qMM n m lm)) rfl ?_
          by_cases hc7 : x5 = 0
          · rw [if_pos hc7] at h
            refine q_ev_brT hc7 (a := 124) (b := 96) rfl ?_
            refine q_ev_run 4 (S' := (49, [some (.ref 58), w1, some (.int x2), some (.int x3), some (.int x4), some (.int 0), some (.int (x6 + 1)), some (.int 0)], [], qMM n m lm)) rfl ?_
            exact ih m x2 x3 x4 0 (x6 + 1) (w1) (some (.int 0)) _ h hk
          · rw [if_neg hc7] at h
            refine q_ev_brF hc7 (a := 124) (b := 96) rfl ?_
            refine q_ev_run 12 (S' := (117, [some (.ref 58), w1, some (.int x2), some (.int x3), some (.int x4), some (.int x5), some (.int x6), some (.int 0)], [.int 0, .int (((x3 &&& (x4 ^^^ (Int32.ofInt (-1)))) >>> (x6 &&& 31)) &&& 1)], qMM n m lm)) rfl ?_
            by_cases hc8 : 0 < (((x3 &&& (x4 ^^^ (Int32.ofInt (-1)))) >>> (x6 &&& 31)) &&& 1)
            · rw [if_pos hc8] at h
              refine q_ev_brT hc8 (a := 124) (b := 120) rfl ?_
              refine q_ev_run 4 (S' := (49, [some (.ref 58), w1, some (.int x2), some (.int x3), some (.int x4), some (.int 0), some (.int (x6 + 1)), some (.int 0)], [], qMM n m lm)) rfl ?_
              exact ih m x2 x3 x4 0 (x6 + 1) (w1) (some (.int 0)) _ h hk
            · rw [if_neg hc8] at h
              refine q_ev_brF hc8 (a := 124) (b := 120) rfl ?_
              refine q_ev_run 5 (S' := (49, [some (.ref 58), w1, some (.int x2), some (.int x3), some (.int x4), some (.int 1), some (.int (x6 + 1)), some (.int 0)], [], qMM n m lm)) rfl ?_
              exact ih m x2 x3 x4 1 (x6 + 1) (w1) (some (.int 0)) _ h hk
        · rw [if_neg hc6] at h
          refine q_ev_brF hc6 (a := 88) (b := 84) rfl ?_
          refine q_ev_run 4 (S' := (93, [some (.ref 58), w1, some (.int x2), some (.int x3), some (.int x4), some (.int x5), some (.int x6), some (.int 1)], [.int x5], qMM n m lm)) rfl ?_
          by_cases hc9 : x5 = 0
          · rw [if_pos hc9] at h
            refine q_ev_brT hc9 (a := 124) (b := 96) rfl ?_
            refine q_ev_run 4 (S' := (49, [some (.ref 58), w1, some (.int x2), some (.int x3), some (.int x4), some (.int 0), some (.int (x6 + 1)), some (.int 1)], [], qMM n m lm)) rfl ?_
            exact ih m x2 x3 x4 0 (x6 + 1) (w1) (some (.int 1)) _ h hk
          · rw [if_neg hc9] at h
            refine q_ev_brF hc9 (a := 124) (b := 96) rfl ?_
            refine q_ev_run 13 (S' := (117, [some (.ref 58), w1, some (.int x2), some (.int x3), some (.int x4), some (.int x5), some (.int x6), some (.int 1)], [.int 1, .int (((x3 &&& (x4 ^^^ (Int32.ofInt (-1)))) >>> (x6 &&& 31)) &&& 1)], qMM n m lm)) rfl ?_
            by_cases hc10 : 1 < (((x3 &&& (x4 ^^^ (Int32.ofInt (-1)))) >>> (x6 &&& 31)) &&& 1)
            · rw [if_pos hc10] at h
              refine q_ev_brT hc10 (a := 124) (b := 120) rfl ?_
              refine q_ev_run 4 (S' := (49, [some (.ref 58), w1, some (.int x2), some (.int x3), some (.int x4), some (.int 0), some (.int (x6 + 1)), some (.int 1)], [], qMM n m lm)) rfl ?_
              exact ih m x2 x3 x4 0 (x6 + 1) (w1) (some (.int 1)) _ h hk
            · rw [if_neg hc10] at h
              refine q_ev_brF hc10 (a := 124) (b := 120) rfl ?_
              refine q_ev_run 5 (S' := (49, [some (.ref 58), w1, some (.int x2), some (.int x3), some (.int x4), some (.int 1), some (.int (x6 + 1)), some (.int 1)], [], qMM n m lm)) rfl ?_
              exact ih m x2 x3 x4 1 (x6 + 1) (w1) (some (.int 1)) _ h hk
noncomputable def F_Mo_canBe (m : (Nat → Nat → Int32)) (a1 : Int32) (a2 : Int32) : Option (Int32) :=
  cond (q_in (8 + a1) 93) (
    cond (q_in (57 + a2) 65) (
      if m 60 ((57 + a2)).toNatClampNeg = (Int32.ofInt (-9)) then
        some (1)
      else
        if (m 60 ((57 + a2)).toNatClampNeg &&& (m 58 ((8 + a1)).toNatClampNeg ^^^ (Int32.ofInt (-1)))) = 0 then
          Option.bind (FL_Mo_canBe_49 qFU m a2 (m 58 ((8 + a1)).toNatClampNeg) (m 60 ((57 + a2)).toNatClampNeg) 1 0) (fun y6 =>
            cond (q_bl y6) (some (y6)) none)
        else
          Option.bind (FL_Mo_canBe_49 qFU m a2 (m 58 ((8 + a1)).toNatClampNeg) (m 60 ((57 + a2)).toNatClampNeg) 0 0) (fun y12 =>
            cond (q_bl y12) (some (y12)) none)
     ) none
   ) none
theorem T_Mo_canBe {Ln : Nat} {xs : Nat → Int32} {n : (Nat → Nat → Int32)} {lm : Nat → Int64} {d : Nat} (hd : 0 ≤ d) {m : (Nat → Nat → Int32)} {a1 : Int32} {a2 : Int32} {rv : Int32} (h : F_Mo_canBe m a1 a2 = some rv) : q_Ev (qXT Ln xs) d 157 (0, [some (.ref 58), some (.int a1), some (.int a2), none, none, none, none, none], [], qMM n m lm) (some (.int rv), qMM n m lm) := by
  unfold F_Mo_canBe at h
  refine q_ev_run 5 (S' := (8, [some (.ref 58), some (.int a1), some (.int a2), none, none, none, none, none], [.int (8 + a1), .ref 60], qMM n m lm)) rfl ?_
  obtain ⟨hb1, h⟩ := q_cd h
  refine q_ev_chk (b := q_in (8 + a1) 93) hb1 (S' := (9, [some (.ref 58), some (.int a1), some (.int a2), none, none, none, none, none], [.int (m 58 ((8 + a1)).toNatClampNeg)], qMM n m lm)) rfl ?_
  refine q_ev_run 6 (S' := (18, [some (.ref 58), some (.int a1), some (.int a2), some (.int (m 58 ((8 + a1)).toNatClampNeg)), none, none, none, none], [.int (57 + a2), .ref 62], qMM n m lm)) rfl ?_
  obtain ⟨hb2, h⟩ := q_cd h
  refine q_ev_chk (b := q_in (57 + a2) 65) hb2 (S' := (19, [some (.ref 58), some (.int a1), some (.int a2), some (.int (m 58 ((8 + a1)).toNatClampNeg)), none, none, none, none], [.int (m 60 ((57 + a2)).toNatClampNeg)], qMM n m lm)) rfl ?_
  refine q_ev_run 3 (S' := (25, [some (.ref 58), some (.int a1), some (.int a2), some (.int (m 58 ((8 + a1)).toNatClampNeg)), some (.int (m 60 ((57 + a2)).toNatClampNeg)), none, none, none], [.int (Int32.ofInt (-9)), .int (m 60 ((57 + a2)).toNatClampNeg)], qMM n m lm)) rfl ?_
  by_cases hc3 : m 60 ((57 + a2)).toNatClampNeg = (Int32.ofInt (-9))
  · rw [if_pos hc3] at h
    refine q_ev_brT hc3 (a := 28) (b := 30) rfl ?_
    refine q_ev_run 1 (S' := (29, [some (.ref 58), some (.int a1), some (.int a2), some (.int (m 58 ((8 + a1)).toNatClampNeg)), some (.int (m 60 ((57 + a2)).toNatClampNeg)), none, none, none], [.int 1], qMM n m lm)) rfl ?_
    have h_z0 := Option.some.inj h
    subst h_z0
    exact q_ev_ret rfl rfl
  · rw [if_neg hc3] at h
    refine q_ev_brF hc3 (a := 28) (b := 30) rfl ?_
    refine q_ev_run 5 (S' := (36, [some (.ref 58), some (.int a1), some (.int a2), some (.int (m 58 ((8 + a1)).toNatClampNeg)), some (.int (m 60 ((57 + a2)).toNatClampNeg)), none, none, none], [.int (m 60 ((57 + a2)).toNatClampNeg &&& (m 58 ((8 + a1)).toNatClampNeg ^^^ (Int32.ofInt (-1))))], qMM n m lm)) rfl ?_
    by_cases hc4 : (m 60 ((57 + a2)).toNatClampNeg &&& (m 58 ((8 + a1)).toNatClampNeg ^^^ (Int32.ofInt (-1)))) = 0
    · rw [if_pos hc4] at h
      refine q_ev_brT hc4 (a := 39) (b := 43) rfl ?_
      refine q_ev_run 5 (S' := (49, [some (.ref 58), some (.int a1), some (.int a2), some (.int (m 58 ((8 + a1)).toNatClampNeg)), some (.int (m 60 ((57 + a2)).toNatClampNeg)), some (.int 1), some (.int 0), none], [], qMM n m lm)) rfl ?_
      obtain ⟨y6, hl9, h⟩ := Option.bind_eq_some_iff.mp h
      try dsimp only at h
      refine TL_Mo_canBe_49 (by first | omega | decide) _ m a2 (m 58 ((8 + a1)).toNatClampNeg) (m 60 ((57 + a2)).toNatClampNeg) 1 0 (some (.int a1)) (none) _ hl9 (fun w5 w7 w8 => ?_)
      refine q_ev_run 1 (S' := (135, [some (.ref 58), w5, some (.int a2), some (.int (m 58 ((8 + a1)).toNatClampNeg)), some (.int (m 60 ((57 + a2)).toNatClampNeg)), some (.int y6), w7, w8], [.int y6], qMM n m lm)) rfl ?_
      obtain ⟨hb10, h⟩ := q_cd h
      have h_z0 := Option.some.inj h
      subst h_z0
      exact q_ev_retb hb10 rfl rfl
    · rw [if_neg hc4] at h
      refine q_ev_brF hc4 (a := 39) (b := 43) rfl ?_
      refine q_ev_run 4 (S' := (49, [some (.ref 58), some (.int a1), some (.int a2), some (.int (m 58 ((8 + a1)).toNatClampNeg)), some (.int (m 60 ((57 + a2)).toNatClampNeg)), some (.int 0), some (.int 0), none], [], qMM n m lm)) rfl ?_
      obtain ⟨y12, hl15, h⟩ := Option.bind_eq_some_iff.mp h
      try dsimp only at h
      refine TL_Mo_canBe_49 (by first | omega | decide) _ m a2 (m 58 ((8 + a1)).toNatClampNeg) (m 60 ((57 + a2)).toNatClampNeg) 0 0 (some (.int a1)) (none) _ hl15 (fun w11 w13 w14 => ?_)
      refine q_ev_run 1 (S' := (135, [some (.ref 58), w11, some (.int a2), some (.int (m 58 ((8 + a1)).toNatClampNeg)), some (.int (m 60 ((57 + a2)).toNatClampNeg)), some (.int y12), w13, w14], [.int y12], qMM n m lm)) rfl ?_
      obtain ⟨hb16, h⟩ := q_cd h
      have h_z0 := Option.some.inj h
      subst h_z0
      exact q_ev_retb hb16 rfl rfl
noncomputable def F_Mo_isThere (m : (Nat → Nat → Int32)) (a1 : Int32) : Option (Int32) :=
  Option.bind (FL_Mo_isThere_5 qFU m a1 (Int32.ofInt (-9)) 0) (fun y1 =>
    cond (q_in a1 8) (
      Option.bind (F_Mo_canBe m (m 67 a1.toNatClampNeg) a1) (fun r5 =>
        if r5 = 0 then
          some (0)
        else
          if y1 = (Int32.ofInt (-9)) then
            some (1)
          else
            Option.bind (F_Mo_canGo m y1 a1) (fun r9 =>
              if r9 = 0 then
                some (0)
              else
                some (1)))
     ) none)
theorem T_Mo_isThere {Ln : Nat} {xs : Nat → Int32} {n : (Nat → Nat → Int32)} {lm : Nat → Int64} {d : Nat} (hd : 2 ≤ d) {m : (Nat → Nat → Int32)} {a1 : Int32} {rv : Int32} (h : F_Mo_isThere m a1 = some rv) : q_Ev (qXT Ln xs) d 159 (0, [some (.ref 58), some (.int a1), none, none], [], qMM n m lm) (some (.int rv), qMM n m lm) := by
  unfold F_Mo_isThere at h
  refine q_ev_run 4 (S' := (5, [some (.ref 58), some (.int a1), some (.int (Int32.ofInt (-9))), some (.int 0)], [], qMM n m lm)) rfl ?_
  obtain ⟨y1, hl3, h⟩ := Option.bind_eq_some_iff.mp h
  try dsimp only at h
  refine TL_Mo_isThere_5 (by first | omega | decide) _ m a1 (Int32.ofInt (-9)) 0 _ hl3 (fun w2 => ?_)
  refine q_ev_run 4 (S' := (43, [some (.ref 58), some (.int a1), some (.int y1), w2], [.int a1, .ref 69, .ref 58], qMM n m lm)) rfl ?_
  obtain ⟨hb4, h⟩ := q_cd h
  refine q_ev_chk (b := q_in a1 8) hb4 (S' := (44, [some (.ref 58), some (.int a1), some (.int y1), w2], [.int (m 67 a1.toNatClampNeg), .ref 58], qMM n m lm)) rfl ?_
  refine q_ev_run 1 (S' := (45, [some (.ref 58), some (.int a1), some (.int y1), w2], [.int a1, .int (m 67 a1.toNatClampNeg), .ref 58], qMM n m lm)) rfl ?_
  obtain ⟨r5, hf6, h⟩ := Option.bind_eq_some_iff.mp h
  try dsimp only at h
  refine q_ev_call (S' := (48, [some (.ref 58), some (.int a1), some (.int y1), w2], [], qMM n m lm)) rfl (by omega) (T_Mo_canBe (by first | omega | decide) hf6) ?_
  refine q_ev_eq (S' := (48, [some (.ref 58), some (.int a1), some (.int y1), w2], [.int r5], qMM n m lm)) rfl ?_
  by_cases hc7 : r5 = 0
  · rw [if_pos hc7] at h
    refine q_ev_brT hc7 (a := 70) (b := 51) rfl ?_
    refine q_ev_run 1 (S' := (71, [some (.ref 58), some (.int a1), some (.int y1), w2], [.int 0], qMM n m lm)) rfl ?_
    have h_z0 := Option.some.inj h
    subst h_z0
    exact q_ev_ret rfl rfl
  · rw [if_neg hc7] at h
    refine q_ev_brF hc7 (a := 70) (b := 51) rfl ?_
    refine q_ev_run 2 (S' := (54, [some (.ref 58), some (.int a1), some (.int y1), w2], [.int (Int32.ofInt (-9)), .int y1], qMM n m lm)) rfl ?_
    by_cases hc8 : y1 = (Int32.ofInt (-9))
    · rw [if_pos hc8] at h
      refine q_ev_brT hc8 (a := 66) (b := 57) rfl ?_
      refine q_ev_run 2 (S' := (71, [some (.ref 58), some (.int a1), some (.int y1), w2], [.int 1], qMM n m lm)) rfl ?_
      have h_z0 := Option.some.inj h
      subst h_z0
      exact q_ev_ret rfl rfl
    · rw [if_neg hc8] at h
      refine q_ev_brF hc8 (a := 66) (b := 57) rfl ?_
      refine q_ev_run 3 (S' := (60, [some (.ref 58), some (.int a1), some (.int y1), w2], [.int a1, .int y1, .ref 58], qMM n m lm)) rfl ?_
      obtain ⟨r9, hf10, h⟩ := Option.bind_eq_some_iff.mp h
      try dsimp only at h
      refine q_ev_call (S' := (63, [some (.ref 58), some (.int a1), some (.int y1), w2], [], qMM n m lm)) rfl (by omega) (T_Mo_canGo (by first | omega | decide) hf10) ?_
      refine q_ev_eq (S' := (63, [some (.ref 58), some (.int a1), some (.int y1), w2], [.int r9], qMM n m lm)) rfl ?_
      by_cases hc11 : r9 = 0
      · rw [if_pos hc11] at h
        refine q_ev_brT hc11 (a := 70) (b := 66) rfl ?_
        refine q_ev_run 1 (S' := (71, [some (.ref 58), some (.int a1), some (.int y1), w2], [.int 0], qMM n m lm)) rfl ?_
        have h_z0 := Option.some.inj h
        subst h_z0
        exact q_ev_ret rfl rfl
      · rw [if_neg hc11] at h
        refine q_ev_brF hc11 (a := 70) (b := 66) rfl ?_
        refine q_ev_run 2 (S' := (71, [some (.ref 58), some (.int a1), some (.int y1), w2], [.int 1], qMM n m lm)) rfl ?_
        have h_z0 := Option.some.inj h
        subst h_z0
        exact q_ev_ret rfl rfl
noncomputable def FL_Mo_ways_59 : Nat → (Nat → Nat → Int32) → Int32 → Int32 → Option ((Nat → Nat → Int32))
  | 0, _, _, _ => none
  | fu + 1, m, x1, x2 =>
    cond (q_in x2 8) (
      if m 58 1 ≤ m 67 x2.toNatClampNeg then
        some (m)
      else
        Option.bind (F_Mo_isThere m x2) (fun r3 =>
          if r3 = 0 then
            cond (q_in x2 8) (cond (q_in x2 8) (FL_Mo_ways_59 fu (q_w m 67 x2.toNatClampNeg (m 67 x2.toNatClampNeg + 1)) x1 x2) none) none
          else
            some (m))
     ) none
theorem TL_Mo_ways_59 {Ln : Nat} {xs : Nat → Int32} {n : (Nat → Nat → Int32)} {lm : Nat → Int64} {d : Nat} (hd : 3 ≤ d) {r : Option Value × qM} : ∀ (fu : Nat) (m : (Nat → Nat → Int32)) (x1 : Int32) (x2 : Int32) (w3 : Option Value) (m1 : (Nat → Nat → Int32)), FL_Mo_ways_59 fu m x1 x2 = some m1 → (∀ (u3 : Option Value), q_Ev (qXT Ln xs) d 158 (95, [some (.ref 58), some (.int x1), some (.int x2), u3], [], qMM n m1 lm) r) → q_Ev (qXT Ln xs) d 158 (59, [some (.ref 58), some (.int x1), some (.int x2), w3], [], qMM n m lm) r := by
  intro fu
  induction fu with
  | zero => intro m x1 x2 w3 m1 h hk; cases h
  | succ fu ih =>
    intro m x1 x2 w3 m1 h hk
    rw [FL_Mo_ways_59] at h
    refine q_ev_run 3 (S' := (64, [some (.ref 58), some (.int x1), some (.int x2), w3], [.int x2, .ref 69], qMM n m lm)) rfl ?_
    obtain ⟨hb1, h⟩ := q_cd h
    refine q_ev_chk (b := q_in x2 8) hb1 (S' := (65, [some (.ref 58), some (.int x1), some (.int x2), w3], [.int (m 67 x2.toNatClampNeg)], qMM n m lm)) rfl ?_
    refine q_ev_run 4 (S' := (71, [some (.ref 58), some (.int x1), some (.int x2), w3], [.int (m 58 1), .int (m 67 x2.toNatClampNeg)], qMM n m lm)) rfl ?_
    by_cases hc2 : m 58 1 ≤ m 67 x2.toNatClampNeg
    · rw [if_pos hc2] at h
      refine q_ev_brT hc2 (a := 95) (b := 74) rfl ?_
      have h_z0 := Option.some.inj h
      subst h_z0
      exact hk (w3)
    · rw [if_neg hc2] at h
      refine q_ev_brF hc2 (a := 95) (b := 74) rfl ?_
      refine q_ev_run 2 (S' := (76, [some (.ref 58), some (.int x1), some (.int x2), w3], [.int x2, .ref 58], qMM n m lm)) rfl ?_
      obtain ⟨r3, hf4, h⟩ := Option.bind_eq_some_iff.mp h
      try dsimp only at h
      refine q_ev_call (S' := (79, [some (.ref 58), some (.int x1), some (.int x2), w3], [], qMM n m lm)) rfl (by omega) (T_Mo_isThere (by first | omega | decide) hf4) ?_
      refine q_ev_eq (S' := (79, [some (.ref 58), some (.int x1), some (.int x2), w3], [.int r3], qMM n m lm)) rfl ?_
      by_cases hc5 : r3 = 0
      · rw [if_pos hc5] at h
        refine q_ev_brT hc5 (a := 82) (b := 95) rfl ?_
        refine q_ev_run 4 (S' := (88, [some (.ref 58), some (.int x1), some (.int x2), w3], [.int x2, .ref 69, .int x2, .ref 69], qMM n m lm)) rfl ?_
        obtain ⟨hb6, h⟩ := q_cd h
        refine q_ev_chk (b := q_in x2 8) hb6 (S' := (89, [some (.ref 58), some (.int x1), some (.int x2), w3], [.int (m 67 x2.toNatClampNeg), .int x2, .ref 69], qMM n m lm)) rfl ?_
        refine q_ev_run 2 (S' := (91, [some (.ref 58), some (.int x1), some (.int x2), w3], [.int (m 67 x2.toNatClampNeg + 1), .int x2, .ref 69], qMM n m lm)) rfl ?_
        obtain ⟨hb7, h⟩ := q_cd h
        refine q_ev_chk (b := q_in x2 8) hb7 (S' := (92, [some (.ref 58), some (.int x1), some (.int x2), w3], [], qMM n (q_w m 67 x2.toNatClampNeg (m 67 x2.toNatClampNeg + 1)) lm)) rfl ?_
        refine q_ev_run 1 (S' := (59, [some (.ref 58), some (.int x1), some (.int x2), w3], [], qMM n (q_w m 67 x2.toNatClampNeg (m 67 x2.toNatClampNeg + 1)) lm)) rfl ?_
        exact ih (q_w m 67 x2.toNatClampNeg (m 67 x2.toNatClampNeg + 1)) x1 x2 (w3) _ h hk
      · rw [if_neg hc5] at h
        refine q_ev_brF hc5 (a := 82) (b := 95) rfl ?_
        have h_z0 := Option.some.inj h
        subst h_z0
        exact hk (w3)
