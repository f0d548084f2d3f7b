noncomputable def FL_Ru_tellFrom_46_13 (rec : (Nat → Nat → Int32) → Int32 → Int32 → Int32 → Option (Int32 × (Nat → Nat → Int32))) : Nat → (Nat → Nat → Int32) → Int32 → Int32 → Int32 → Int32 → Option ((Int32 × (Nat → Nat → Int32)) ⊕ ((Nat → Nat → Int32)))
  | 0, _, _, _, _, _ => none
  | fu + 1, m, x1, x2, x3, x4 =>
    if x2 < x4 then
      some (.inr m)
    else
      if x3 ≤ x4 then
        some (.inr m)
      else
        if 8 ≤ x4 then
          some (.inr m)
        else
          if x4 = x2 then
            cond (q_in x4 8) (
              cond (q_in x1 8) (
                cond (q_in x4 8) (
                  Option.bind (rec (q_w (q_w m 50 x1.toNatClampNeg x4) 51 x4.toNatClampNeg x1) (x1 + 1) (x2 + 1) x3) (fun (r8, m9) =>
                    if r8 = 0 then
                      cond (q_in x4 8) (FL_Ru_tellFrom_46_13 rec fu (q_w m9 51 x4.toNatClampNeg (m 51 x4.toNatClampNeg)) x1 x2 x3 (x4 + 1)) none
                    else
                      some (.inl (1, m9)))
                 ) none
               ) none
             ) none
          else
            cond (q_in x1 8) (
              cond (q_in x4 8) (
                if ((m 49 x1.toNatClampNeg >>> (m 51 x4.toNatClampNeg &&& 31)) &&& 1) = 0 then
                  FL_Ru_tellFrom_46_13 rec fu m x1 x2 x3 (x4 + 1)
                else
                  cond (q_in x4 8) (
                    cond (q_in x1 8) (
                      cond (q_in x4 8) (
                        Option.bind (rec (q_w (q_w m 50 x1.toNatClampNeg x4) 51 x4.toNatClampNeg x1) (x1 + 1) x2 x3) (fun (r19, m20) =>
                          if r19 = 0 then
                            cond (q_in x4 8) (FL_Ru_tellFrom_46_13 rec fu (q_w m20 51 x4.toNatClampNeg (m 51 x4.toNatClampNeg)) x1 x2 x3 (x4 + 1)) none
                          else
                            some (.inl (1, m20)))
                       ) none
                     ) none
                   ) none
               ) none
             ) none
theorem TL_Ru_tellFrom_46_13 {Ln : Nat} {xs : Nat → Int32} {n : (Nat → Nat → Int32)} {lm : Nat → Int64} {d : Nat} (hd : 1 ≤ d) {rec : (Nat → Nat → Int32) → Int32 → Int32 → Int32 → Option (Int32 × (Nat → Nat → Int32))} (hrec : ∀ (m : (Nat → Nat → Int32)) (a1 : Int32) (a2 : Int32) (a3 : Int32) (rv : Int32) (m1 : (Nat → Nat → Int32)), rec m a1 a2 a3 = some (rv, m1) → q_Ev (qXT Ln xs) (d - 1) 61 (0, [some (.ref 48), some (.int a1), some (.int a2), some (.int a3), none, none, none], [], qMM m n lm) (some (.int rv), qMM m1 n lm)) {r : Option Value × qM} : ∀ (fu : Nat) (m : (Nat → Nat → Int32)) (x1 : Int32) (x2 : Int32) (x3 : Int32) (x4 : Int32) (w5 : Option Value) (w6 : Option Value) (o : (Int32 × (Nat → Nat → Int32)) ⊕ ((Nat → Nat → Int32))), FL_Ru_tellFrom_46_13 rec fu m x1 x2 x3 x4 = some o → (∀ (rv : Int32) (m1 : (Nat → Nat → Int32)), o = .inl (rv, m1) → r = (some (.int rv), qMM m1 n lm)) → (∀ (m1 : (Nat → Nat → Int32)), o = .inr m1 → ∀ (u4 u5 u6 : Option Value), q_Ev (qXT Ln xs) d 61 (137, [some (.ref 48), some (.int x1), some (.int x2), some (.int x3), u4, u5, u6], [], qMM m1 n lm) r) → q_Ev (qXT Ln xs) d 61 (13, [some (.ref 48), some (.int x1), some (.int x2), some (.int x3), some (.int x4), w5, w6], [], qMM m n lm) r := by
  intro fu
  induction fu with
  | zero => intro m x1 x2 x3 x4 w5 w6 o h hr hk; cases h
  | succ fu ih =>
    intro m x1 x2 x3 x4 w5 w6 o h hr hk
    rw [FL_Ru_tellFrom_46_13] at h
    refine q_ev_run 2 (S' := (16, [some (.ref 48), some (.int x1), some (.int x2), some (.int x3), some (.int x4), w5, w6], [.int x2, .int x4], qMM m n lm)) rfl ?_
    by_cases hc1 : x2 < x4
    · rw [if_pos hc1] at h
      refine q_ev_brT hc1 (a := 137) (b := 19) rfl ?_
      obtain rfl := (Option.some.inj h).symm
      exact hk _ rfl (some (.int x4)) (w5) (w6)
    · rw [if_neg hc1] at h
      refine q_ev_brF hc1 (a := 137) (b := 19) rfl ?_
      refine q_ev_run 2 (S' := (22, [some (.ref 48), some (.int x1), some (.int x2), some (.int x3), some (.int x4), w5, w6], [.int x3, .int x4], qMM m n lm)) rfl ?_
      by_cases hc2 : x3 ≤ x4
      · rw [if_pos hc2] at h
        refine q_ev_brT hc2 (a := 137) (b := 25) rfl ?_
        obtain rfl := (Option.some.inj h).symm
        exact hk _ rfl (some (.int x4)) (w5) (w6)
      · rw [if_neg hc2] at h
        refine q_ev_brF hc2 (a := 137) (b := 25) rfl ?_
        refine q_ev_run 2 (S' := (29, [some (.ref 48), some (.int x1), some (.int x2), some (.int x3), some (.int x4), w5, w6], [.int 8, .int x4], qMM m n lm)) rfl ?_
        by_cases hc3 : 8 ≤ x4
        · rw [if_pos hc3] at h
          refine q_ev_brT hc3 (a := 137) (b := 32) rfl ?_
          obtain rfl := (Option.some.inj h).symm
          exact hk _ rfl (some (.int x4)) (w5) (w6)
        · rw [if_neg hc3] at h
          refine q_ev_brF hc3 (a := 137) (b := 32) rfl ?_
          refine q_ev_run 2 (S' := (35, [some (.ref 48), some (.int x1), some (.int x2), some (.int x3), some (.int x4), w5, w6], [.int x2, .int x4], qMM m n lm)) rfl ?_
          by_cases hc4 : x4 = x2
          · rw [if_pos hc4] at h
            refine q_ev_brT hc4 (a := 38) (b := 42) rfl ?_
            refine q_ev_run 8 (S' := (78, [some (.ref 48), some (.int x1), some (.int x2), some (.int x3), some (.int x4), some (.int 1), w6], [.int x4, .ref 53], qMM m n lm)) rfl ?_
            obtain ⟨hb5, h⟩ := q_cd h
            refine q_ev_chk (b := q_in x4 8) hb5 (S' := (79, [some (.ref 48), some (.int x1), some (.int x2), some (.int x3), some (.int x4), some (.int 1), w6], [.int (m 51 x4.toNatClampNeg)], qMM m n lm)) rfl ?_
            refine q_ev_run 5 (S' := (88, [some (.ref 48), some (.int x1), some (.int x2), some (.int x3), some (.int x4), some (.int 1), some (.int (m 51 x4.toNatClampNeg))], [.int x4, .int x1, .ref 52], qMM m n lm)) rfl ?_
            obtain ⟨hb6, h⟩ := q_cd h
            refine q_ev_chk (b := q_in x1 8) hb6 (S' := (89, [some (.ref 48), some (.int x1), some (.int x2), some (.int x3), some (.int x4), some (.int 1), some (.int (m 51 x4.toNatClampNeg))], [], qMM (q_w m 50 x1.toNatClampNeg x4) n lm)) rfl ?_
            refine q_ev_run 4 (S' := (96, [some (.ref 48), some (.int x1), some (.int x2), some (.int x3), some (.int x4), some (.int 1), some (.int (m 51 x4.toNatClampNeg))], [.int x1, .int x4, .ref 53], qMM (q_w m 50 x1.toNatClampNeg x4) n lm)) rfl ?_
            obtain ⟨hb7, h⟩ := q_cd h
            refine q_ev_chk (b := q_in x4 8) hb7 (S' := (97, [some (.ref 48), some (.int x1), some (.int x2), some (.int x3), some (.int x4), some (.int 1), some (.int (m 51 x4.toNatClampNeg))], [], qMM (q_w (q_w m 50 x1.toNatClampNeg x4) 51 x4.toNatClampNeg x1) n lm)) rfl ?_
            refine q_ev_run 11 (S' := (114, [some (.ref 48), some (.int x1), some (.int x2), some (.int x3), some (.int x4), some (.int 1), some (.int (m 51 x4.toNatClampNeg))], [.int x3, .int (x2 + 1), .int (x1 + 1), .ref 48], qMM (q_w (q_w m 50 x1.toNatClampNeg x4) 51 x4.toNatClampNeg x1) n lm)) rfl ?_
            obtain ⟨⟨r8, m9⟩, hf10, h⟩ := Option.bind_eq_some_iff.mp h
            try dsimp only at h
            refine q_ev_call (S' := (117, [some (.ref 48), some (.int x1), some (.int x2), some (.int x3), some (.int x4), some (.int 1), some (.int (m 51 x4.toNatClampNeg))], [], qMM (q_w (q_w m 50 x1.toNatClampNeg x4) 51 x4.toNatClampNeg x1) n lm)) rfl (by omega) (hrec _ _ _ _ _ _ hf10) ?_
            refine q_ev_eq (S' := (117, [some (.ref 48), some (.int x1), some (.int x2), some (.int x3), some (.int x4), some (.int 1), some (.int (m 51 x4.toNatClampNeg))], [.int r8], qMM m9 n lm)) rfl ?_
            by_cases hc11 : r8 = 0
            · rw [if_pos hc11] at h
              refine q_ev_brT hc11 (a := 122) (b := 120) rfl ?_
              refine q_ev_run 4 (S' := (130, [some (.ref 48), some (.int x1), some (.int x2), some (.int x3), some (.int x4), some (.int 1), some (.int (m 51 x4.toNatClampNeg))], [.int (m 51 x4.toNatClampNeg), .int x4, .ref 53], qMM m9 n lm)) rfl ?_
              obtain ⟨hb12, h⟩ := q_cd h
              refine q_ev_chk (b := q_in x4 8) hb12 (S' := (131, [some (.ref 48), some (.int x1), some (.int x2), some (.int x3), some (.int x4), some (.int 1), some (.int (m 51 x4.toNatClampNeg))], [], qMM (q_w m9 51 x4.toNatClampNeg (m 51 x4.toNatClampNeg)) n lm)) rfl ?_
              refine q_ev_run 2 (S' := (13, [some (.ref 48), some (.int x1), some (.int x2), some (.int x3), some (.int (x4 + 1)), some (.int 1), some (.int (m 51 x4.toNatClampNeg))], [], qMM (q_w m9 51 x4.toNatClampNeg (m 51 x4.toNatClampNeg)) n lm)) rfl ?_
              exact ih (q_w m9 51 x4.toNatClampNeg (m 51 x4.toNatClampNeg)) x1 x2 x3 (x4 + 1) (some (.int 1)) (some (.int (m 51 x4.toNatClampNeg))) _ h hr hk
            · rw [if_neg hc11] at h
              refine q_ev_brF hc11 (a := 122) (b := 120) rfl ?_
              refine q_ev_run 1 (S' := (121, [some (.ref 48), some (.int x1), some (.int x2), some (.int x3), some (.int x4), some (.int 1), some (.int (m 51 x4.toNatClampNeg))], [.int 1], qMM m9 n lm)) rfl ?_
              obtain rfl := (Option.some.inj h).symm
              rw [hr _ _ rfl]
              exact q_ev_ret rfl rfl
          · rw [if_neg hc4] at h
            refine q_ev_brF hc4 (a := 38) (b := 42) rfl ?_
            refine q_ev_run 7 (S' := (55, [some (.ref 48), some (.int x1), some (.int x2), some (.int x3), some (.int x4), some (.int 0), w6], [.int x1, .ref 51], qMM m n lm)) rfl ?_
            obtain ⟨hb13, h⟩ := q_cd h
            refine q_ev_chk (b := q_in x1 8) hb13 (S' := (56, [some (.ref 48), some (.int x1), some (.int x2), some (.int x3), some (.int x4), some (.int 0), w6], [.int (m 49 x1.toNatClampNeg)], qMM m n lm)) rfl ?_
            refine q_ev_run 3 (S' := (62, [some (.ref 48), some (.int x1), some (.int x2), some (.int x3), some (.int x4), some (.int 0), w6], [.int x4, .ref 53, .int (m 49 x1.toNatClampNeg)], qMM m n lm)) rfl ?_
            obtain ⟨hb14, h⟩ := q_cd h
            refine q_ev_chk (b := q_in x4 8) hb14 (S' := (63, [some (.ref 48), some (.int x1), some (.int x2), some (.int x3), some (.int x4), some (.int 0), w6], [.int (m 51 x4.toNatClampNeg), .int (m 49 x1.toNatClampNeg)], qMM m n lm)) rfl ?_
            refine q_ev_run 3 (S' := (66, [some (.ref 48), some (.int x1), some (.int x2), some (.int x3), some (.int x4), some (.int 0), w6], [.int ((m 49 x1.toNatClampNeg >>> (m 51 x4.toNatClampNeg &&& 31)) &&& 1)], qMM m n lm)) rfl ?_
            by_cases hc15 : ((m 49 x1.toNatClampNeg >>> (m 51 x4.toNatClampNeg &&& 31)) &&& 1) = 0
            · rw [if_pos hc15] at h
              refine q_ev_brT hc15 (a := 69) (b := 72) rfl ?_
              refine q_ev_run 3 (S' := (13, [some (.ref 48), some (.int x1), some (.int x2), some (.int x3), some (.int (x4 + 1)), some (.int 0), w6], [], qMM m n lm)) rfl ?_
              exact ih m x1 x2 x3 (x4 + 1) (some (.int 0)) (w6) _ h hr hk
            · rw [if_neg hc15] at h
              refine q_ev_brF hc15 (a := 69) (b := 72) rfl ?_
              refine q_ev_run 3 (S' := (78, [some (.ref 48), some (.int x1), some (.int x2), some (.int x3), some (.int x4), some (.int 0), w6], [.int x4, .ref 53], qMM m n lm)) rfl ?_
              obtain ⟨hb16, h⟩ := q_cd h
              refine q_ev_chk (b := q_in x4 8) hb16 (S' := (79, [some (.ref 48), some (.int x1), some (.int x2), some (.int x3), some (.int x4), some (.int 0), w6], [.int (m 51 x4.toNatClampNeg)], qMM m n lm)) rfl ?_
              refine q_ev_run 5 (S' := (88, [some (.ref 48), some (.int x1), some (.int x2), some (.int x3), some (.int x4), some (.int 0), some (.int (m 51 x4.toNatClampNeg))], [.int x4, .int x1, .ref 52], qMM m n lm)) rfl ?_
              obtain ⟨hb17, h⟩ := q_cd h
              refine q_ev_chk (b := q_in x1 8) hb17 (S' := (89, [some (.ref 48), some (.int x1), some (.int x2), some (.int x3), some (.int x4), some (.int 0), some (.int (m 51 x4.toNatClampNeg))], [], qMM (q_w m 50 x1.toNatClampNeg x4) n lm)) rfl ?_
              refine q_ev_run 4 (S' := (96, [some (.ref 48), some (.int x1), some (.int x2), some (.int x3), some (.int x4), some (.int 0), some (.int (m 51 x4.toNatClampNeg))], [.int x1, .int x4, .ref 53], qMM (q_w m 50 x1.toNatClampNeg x4) n lm)) rfl ?_
              obtain ⟨hb18, h⟩ := q_cd h
              refine q_ev_chk (b := q_in x4 8) hb18 (S' := (97, [some (.ref 48), some (.int x1), some (.int x2), some (.int x3), some (.int x4), some (.int 0), some (.int (m 51 x4.toNatClampNeg))], [], qMM (q_w (q_w m 50 x1.toNatClampNeg x4) 51 x4.toNatClampNeg x1) n lm)) rfl ?_
              refine q_ev_run 8 (S' := (114, [some (.ref 48), some (.int x1), some (.int x2), some (.int x3), some (.int x4), some (.int 0), some (.int (m 51 x4.toNatClampNeg))], [.int x3, .int x2, .int (x1 + 1), .ref 48], qMM (q_w (q_w m 50 x1.toNatClampNeg x4) 51 x4.toNatClampNeg x1) n lm)) rfl ?_
              obtain ⟨⟨r19, m20⟩, hf21, h⟩ := Option.bind_eq_some_iff.mp h
              try dsimp only at h
              refine q_ev_call (S' := (117, [some (.ref 48), some (.int x1), some (.int x2), some (.int x3), some (.int x4), some (.int 0), some (.int (m 51 x4.toNatClampNeg))], [], qMM (q_w (q_w m 50 x1.toNatClampNeg x4) 51 x4.toNatClampNeg x1) n lm)) rfl (by omega) (hrec _ _ _ _ _ _ hf21) ?_
              refine q_ev_eq (S' := (117, [some (.ref 48), some (.int x1), some (.int x2), some (.int x3), some (.int x4), some (.int 0), some (.int (m 51 x4.toNatClampNeg))], [.int r19], qMM m20 n lm)) rfl ?_
              by_cases hc22 : r19 = 0
              · rw [if_pos hc22] at h
                refine q_ev_brT hc22 (a := 122) (b := 120) rfl ?_
                refine q_ev_run 4 (S' := (130, [some (.ref 48), some (.int x1), some (.int x2), some (.int x3), some (.int x4), some (.int 0), some (.int (m 51 x4.toNatClampNeg))], [.int (m 51 x4.toNatClampNeg), .int x4, .ref 53], qMM m20 n lm)) rfl ?_
                obtain ⟨hb23, h⟩ := q_cd h
                refine q_ev_chk (b := q_in x4 8) hb23 (S' := (131, [some (.ref 48), some (.int x1), some (.int x2), some (.int x3), some (.int x4), some (.int 0), some (.int (m 51 x4.toNatClampNeg))], [], qMM (q_w m20 51 x4.toNatClampNeg (m 51 x4.toNatClampNeg)) n lm)) rfl ?_
                refine q_ev_run 2 (S' := (13, [some (.ref 48), some (.int x1), some (.int x2), some (.int x3), some (.int (x4 + 1)), some (.int 0), some (.int (m 51 x4.toNatClampNeg))], [], qMM (q_w m20 51 x4.toNatClampNeg (m 51 x4.toNatClampNeg)) n lm)) rfl ?_
                exact ih (q_w m20 51 x4.toNatClampNeg (m 51 x4.toNatClampNeg)) x1 x2 x3 (x4 + 1) (some (.int 0)) (some (.int (m 51 x4.toNatClampNeg))) _ h hr hk
              · rw [if_neg hc22] at h
                refine q_ev_brF hc22 (a := 122) (b := 120) rfl ?_
                refine q_ev_run 1 (S' := (121, [some (.ref 48), some (.int x1), some (.int x2), some (.int x3), some (.int x4), some (.int 0), some (.int (m 51 x4.toNatClampNeg))], [.int 1], qMM m20 n lm)) rfl ?_
                obtain rfl := (Option.some.inj h).symm
                rw [hr _ _ rfl]
                exact q_ev_ret rfl rfl
noncomputable def F_Ru_tellFrom_46 : Nat → (Nat → Nat → Int32) → Int32 → Int32 → Int32 → Option (Int32 × (Nat → Nat → Int32))
  | 0, _, _, _, _ => none
  | dn + 1, m, a1, a2, a3 =>
    if a1 < m 46 0 then
      Option.bind (FL_Ru_tellFrom_46_13 (F_Ru_tellFrom_46 dn) qFU m a1 a2 a3 0) (fun o7 => match o7 with
        | .inl (v0, v1) => some (v0, v1)
        | .inr m5 =>
          some (0, m5))
    else
      some (1, m)
theorem T_Ru_tellFrom_46_r {Ln : Nat} {xs : Nat → Int32} {n : (Nat → Nat → Int32)} {lm : Nat → Int64} : ∀ (dn : Nat) {d : Nat}, dn + 1 ≤ d → ∀ (m : (Nat → Nat → Int32)) (a1 : Int32) (a2 : Int32) (a3 : Int32) (rv : Int32) (m1 : (Nat → Nat → Int32)), F_Ru_tellFrom_46 dn m a1 a2 a3 = some (rv, m1) → q_Ev (qXT Ln xs) d 61 (0, [some (.ref 48), some (.int a1), some (.int a2), some (.int a3), none, none, none], [], qMM m n lm) (some (.int rv), qMM m1 n lm) := by
  intro dn
  induction dn with
  | zero => intro d hd m a1 a2 a3 rv m1 h; cases h
  | succ dn ihd =>
    intro d hd m a1 a2 a3 rv m1 h
    have hrec0 : ∀ (m : (Nat → Nat → Int32)) (a1 : Int32) (a2 : Int32) (a3 : Int32) (rv : Int32) (m1 : (Nat → Nat → Int32)), F_Ru_tellFrom_46 dn m a1 a2 a3 = some (rv, m1) → q_Ev (qXT Ln xs) (d - 1) 61 (0, [some (.ref 48), some (.int a1), some (.int a2), some (.int a3), none, none, none], [], qMM m n lm) (some (.int rv), qMM m1 n lm) := fun m a1 a2 a3 rv m1 hh => ihd (by omega) m a1 a2 a3 rv m1 hh
    rw [F_Ru_tellFrom_46] at h
    refine q_ev_run 3 (S' := (5, [some (.ref 48), some (.int a1), some (.int a2), some (.int a3), none, none, none], [.int (m 46 0), .int a1], qMM m n lm)) rfl ?_
    by_cases hc1 : a1 < m 46 0
    · rw [if_pos hc1] at h
      refine q_ev_brT hc1 (a := 10) (b := 8) rfl ?_
      refine q_ev_run 2 (S' := (13, [some (.ref 48), some (.int a1), some (.int a2), some (.int a3), some (.int 0), none, none], [], qMM m n lm)) rfl ?_
      obtain ⟨o7, hl6, h⟩ := Option.bind_eq_some_iff.mp h
      rcases o7 with ⟨v0, v1⟩ | m5
      · have h_z0 := Option.some.inj h
        obtain ⟨h_0, h_z1⟩ := Prod.mk.inj h_z0
        subst h_0
        subst h_z1
        exact TL_Ru_tellFrom_46_13 (by first | omega | decide) hrec0 _ m a1 a2 a3 0 (none) (none) _ hl6 (fun _ _ hh => by cases hh; rfl) (fun _ hh => by cases hh)
      · refine TL_Ru_tellFrom_46_13 (by first | omega | decide) hrec0 _ m a1 a2 a3 0 (none) (none) _ hl6 (fun _ _ hh => by cases hh) (fun _ hh w2 w3 w4 => ?_)
        cases hh
        try dsimp only at h
        refine q_ev_run 1 (S' := (138, [some (.ref 48), some (.int a1), some (.int a2), some (.int a3), w2, w3, w4], [.int 0], qMM m5 n lm)) rfl ?_
        have h_z0 := Option.some.inj h
        obtain ⟨h_0, h_z1⟩ := Prod.mk.inj h_z0
        subst h_0
        subst h_z1
        exact q_ev_ret rfl rfl
    · rw [if_neg hc1] at h
      refine q_ev_brF hc1 (a := 10) (b := 8) rfl ?_
      refine q_ev_run 1 (S' := (9, [some (.ref 48), some (.int a1), some (.int a2), some (.int a3), none, none, none], [.int 1], qMM m n lm)) rfl ?_
      have h_z0 := Option.some.inj h
      obtain ⟨h_0, h_z1⟩ := Prod.mk.inj h_z0
      subst h_0
      subst h_z1
      exact q_ev_ret rfl rfl
theorem T_Ru_tellFrom_46 {Ln : Nat} {xs : Nat → Int32} {n : (Nat → Nat → Int32)} {lm : Nat → Int64} {d dn : Nat} (hd : dn + 1 ≤ d) {m : (Nat → Nat → Int32)} {a1 : Int32} {a2 : Int32} {a3 : Int32} {rv : Int32} {m1 : (Nat → Nat → Int32)} (h : F_Ru_tellFrom_46 dn m a1 a2 a3 = some (rv, m1)) : q_Ev (qXT Ln xs) d 61 (0, [some (.ref 48), some (.int a1), some (.int a2), some (.int a3), none, none, none], [], qMM m n lm) (some (.int rv), qMM m1 n lm) := T_Ru_tellFrom_46_r dn hd m a1 a2 a3 rv m1 h
noncomputable def F_Ru_canBeDoneBy_46 (m : (Nat → Nat → Int32)) (a1 : Int32) : Option (Int32 × (Nat → Nat → Int32)) :=
  Option.bind (F_Ru_tellFrom_46 20 m 0 0 a1) (fun (r1, m2) =>
    cond (q_bl r1) (some (r1, m2)) none)
theorem T_Ru_canBeDoneBy_46 {Ln : Nat} {xs : Nat → Int32} {n : (Nat → Nat → Int32)} {lm : Nat → Int64} {d : Nat} (hd : 22 ≤ d) {m : (Nat → Nat → Int32)} {a1 : Int32} {rv : Int32} {m1 : (Nat → Nat → Int32)} (h : F_Ru_canBeDoneBy_46 m a1 = some (rv, m1)) : q_Ev (qXT Ln xs) d 60 (0, [some (.ref 48), some (.int a1)], [], qMM m n lm) (some (.int rv), qMM m1 n lm) := by
  unfold F_Ru_canBeDoneBy_46 at h
  refine q_ev_run 4 (S' := (4, [some (.ref 48), some (.int a1)], [.int a1, .int 0, .int 0, .ref 48], qMM m n lm)) rfl ?_
  obtain ⟨⟨r1, m2⟩, hf3, h⟩ := Option.bind_eq_some_iff.mp h
  try dsimp only at h
  refine q_ev_call (S' := (7, [some (.ref 48), some (.int a1)], [], qMM m n lm)) rfl (by omega) (T_Ru_tellFrom_46 (by first | omega | decide) hf3) ?_
  refine q_ev_eq (S' := (7, [some (.ref 48), some (.int a1)], [.int r1], qMM m2 n lm)) rfl ?_
  obtain ⟨hb4, h⟩ := q_cd h
  have h_z0 := Option.some.inj h
  obtain ⟨h_0, h_z1⟩ := Prod.mk.inj h_z0
  subst h_0
  subst h_z1
  exact q_ev_retb hb4 rfl rfl
noncomputable def FL_Ru_fewest_46_2 : Nat → (Nat → Nat → Int32) → Int32 → Option ((Int32 × (Nat → Nat → Int32)) ⊕ ((Nat → Nat → Int32)))
  | 0, _, _ => none
  | fu + 1, m, x1 =>
    if m 46 0 ≤ x1 then
      some (.inr m)
    else
      Option.bind (F_Ru_canBeDoneBy_46 m x1) (fun (r2, m3) =>
        if r2 = 0 then
          FL_Ru_fewest_46_2 fu m3 (x1 + 1)
        else
          some (.inl (x1, m3)))
theorem TL_Ru_fewest_46_2 {Ln : Nat} {xs : Nat → Int32} {n : (Nat → Nat → Int32)} {lm : Nat → Int64} {d : Nat} (hd : 23 ≤ d) {r : Option Value × qM} : ∀ (fu : Nat) (m : (Nat → Nat → Int32)) (x1 : Int32)  (o : (Int32 × (Nat → Nat → Int32)) ⊕ ((Nat → Nat → Int32))), FL_Ru_fewest_46_2 fu m x1 = some o → (∀ (rv : Int32) (m1 : (Nat → Nat → Int32)), o = .inl (rv, m1) → r = (some (.int rv), qMM m1 n lm)) → (∀ (m1 : (Nat → Nat → Int32)), o = .inr m1 → ∀ (u1 : Option Value), q_Ev (qXT Ln xs) d 59 (26, [some (.ref 48), u1], [], qMM m1 n lm) r) → q_Ev (qXT Ln xs) d 59 (2, [some (.ref 48), some (.int x1)], [], qMM m n lm) r := by
  intro fu
  induction fu with
  | zero => intro m x1 o h hr hk; cases h
  | succ fu ih =>
    intro m x1 o h hr hk
    rw [FL_Ru_fewest_46_2] at h
    refine q_ev_run 3 (S' := (7, [some (.ref 48), some (.int x1)], [.int (m 46 0), .int x1], qMM m n lm)) rfl ?_
    by_cases hc1 : m 46 0 ≤ x1
    · rw [if_pos hc1] at h
      refine q_ev_brT hc1 (a := 26) (b := 10) rfl ?_
      obtain rfl := (Option.some.inj h).symm
      exact hk _ rfl (some (.int x1))
    · rw [if_neg hc1] at h
      refine q_ev_brF hc1 (a := 26) (b := 10) rfl ?_
      refine q_ev_run 2 (S' := (12, [some (.ref 48), some (.int x1)], [.int x1, .ref 48], qMM m n lm)) rfl ?_
      obtain ⟨⟨r2, m3⟩, hf4, h⟩ := Option.bind_eq_some_iff.mp h
      try dsimp only at h
      refine q_ev_call (S' := (15, [some (.ref 48), some (.int x1)], [], qMM m n lm)) rfl (by omega) (T_Ru_canBeDoneBy_46 (by first | omega | decide) hf4) ?_
      refine q_ev_eq (S' := (15, [some (.ref 48), some (.int x1)], [.int r2], qMM m3 n lm)) rfl ?_
      by_cases hc5 : r2 = 0
      · rw [if_pos hc5] at h
        refine q_ev_brT hc5 (a := 20) (b := 18) rfl ?_
        refine q_ev_run 2 (S' := (2, [some (.ref 48), some (.int (x1 + 1))], [], qMM m3 n lm)) rfl ?_
        exact ih m3 (x1 + 1) _ h hr hk
      · rw [if_neg hc5] at h
        refine q_ev_brF hc5 (a := 20) (b := 18) rfl ?_
        refine q_ev_run 1 (S' := (19, [some (.ref 48), some (.int x1)], [.int x1], qMM m3 n lm)) rfl ?_
        obtain rfl := (Option.some.inj h).symm
        rw [hr _ _ rfl]
        exact q_ev_ret rfl rfl
noncomputable def F_Ru_fewest_46 (m : (Nat → Nat → Int32)) : Option (Int32 × (Nat → Nat → Int32)) :=
  Option.bind (FL_Ru_fewest_46_2 qFU m 0) (fun o7 => match o7 with
    | .inl (v0, v1) => some (v0, v1)
    | .inr m2 =>
      Option.bind (F_Ru_canBeDoneBy_46 m2 (m2 46 0)) (fun (r4, m5) =>
        some (m5 46 0, m5)))
theorem T_Ru_fewest_46 {Ln : Nat} {xs : Nat → Int32} {n : (Nat → Nat → Int32)} {lm : Nat → Int64} {d : Nat} (hd : 23 ≤ d) {m : (Nat → Nat → Int32)} {rv : Int32} {m1 : (Nat → Nat → Int32)} (h : F_Ru_fewest_46 m = some (rv, m1)) : q_Ev (qXT Ln xs) d 59 (0, [some (.ref 48), none], [], qMM m n lm) (some (.int rv), qMM m1 n lm) := by
  unfold F_Ru_fewest_46 at h
  refine q_ev_run 2 (S' := (2, [some (.ref 48), some (.int 0)], [], qMM m n lm)) rfl ?_
  obtain ⟨o7, hl3, h⟩ := Option.bind_eq_some_iff.mp h
  rcases o7 with ⟨v0, v1⟩ | m2
  · have h_z0 := Option.some.inj h
    obtain ⟨h_0, h_z1⟩ := Prod.mk.inj h_z0
    subst h_0
    subst h_z1
    exact TL_Ru_fewest_46_2 (by first | omega | decide) _ m 0 _ hl3 (fun _ _ hh => by cases hh; rfl) (fun _ hh => by cases hh)
  · refine TL_Ru_fewest_46_2 (by first | omega | decide) _ m 0 _ hl3 (fun _ _ hh => by cases hh) (fun _ hh w1 => ?_)
    cases hh
    try dsimp only at h
    refine q_ev_run 3 (S' := (31, [some (.ref 48), w1], [.int (m2 46 0), .ref 48], qMM m2 n lm)) rfl ?_
    obtain ⟨⟨r4, m5⟩, hf6, h⟩ := Option.bind_eq_some_iff.mp h
    try dsimp only at h
    refine q_ev_call (S' := (34, [some (.ref 48), w1], [], qMM m2 n lm)) rfl (by omega) (T_Ru_canBeDoneBy_46 (by first | omega | decide) hf6) ?_
    refine q_ev_eq (S' := (34, [some (.ref 48), w1], [.int r4], qMM m5 n lm)) rfl ?_
    refine q_ev_run 3 (S' := (39, [some (.ref 48), w1], [.int (m5 46 0)], qMM m5 n lm)) rfl ?_
    have h_z0 := Option.some.inj h
    obtain ⟨h_0, h_z1⟩ := Prod.mk.inj h_z0
    subst h_0
    subst h_z1
    exact q_ev_ret rfl rfl
noncomputable def FL_Ru_figures_46_4 : Nat → (Nat → Nat → Int32) → Int32 → Int32 → Option (Int32)
  | 0, _, _, _ => none
  | fu + 1, m, x1, x2 =>
    if m 46 0 ≤ x2 then
      some (x1)
    else
      cond (q_in x2 8) (FL_Ru_figures_46_4 fu m (((x1 * 10) + m 47 x2.toNatClampNeg) + 1) (x2 + 1)) none
theorem TL_Ru_figures_46_4 {Ln : Nat} {xs : Nat → Int32} {n : (Nat → Nat → Int32)} {lm : Nat → Int64} {d : Nat} (hd : 0 ≤ d) {r : Option Value × qM} : ∀ (fu : Nat) (m : (Nat → Nat → Int32)) (x1 : Int32) (x2 : Int32)  (y1 : Int32), FL_Ru_figures_46_4 fu m x1 x2 = some y1 → (∀ (u2 : Option Value), q_Ev (qXT Ln xs) d 62 (32, [some (.ref 48), some (.int y1), u2], [], qMM m n lm) r) → q_Ev (qXT Ln xs) d 62 (4, [some (.ref 48), some (.int x1), some (.int x2)], [], qMM m n lm) r := by
  intro fu
  induction fu with
  | zero => intro m x1 x2 y1 h hk; cases h
  | succ fu ih =>
    intro m x1 x2 y1 h hk
    rw [FL_Ru_figures_46_4] at h
    refine q_ev_run 3 (S' := (9, [some (.ref 48), some (.int x1), some (.int x2)], [.int (m 46 0), .int x2], qMM m n lm)) rfl ?_
    by_cases hc1 : m 46 0 ≤ x2
    · rw [if_pos hc1] at h
      refine q_ev_brT hc1 (a := 32) (b := 12) rfl ?_
      have h_z0 := Option.some.inj h
      subst h_z0
      exact hk (some (.int x2))
    · rw [if_neg hc1] at h
      refine q_ev_brF hc1 (a := 32) (b := 12) rfl ?_
      refine q_ev_run 6 (S' := (21, [some (.ref 48), some (.int x1), some (.int x2)], [.int x2, .ref 49, .int (x1 * 10)], qMM m n lm)) rfl ?_
      obtain ⟨hb2, h⟩ := q_cd h
      refine q_ev_chk (b := q_in x2 8) hb2 (S' := (22, [some (.ref 48), some (.int x1), some (.int x2)], [.int (m 47 x2.toNatClampNeg), .int (x1 * 10)], qMM m n lm)) rfl ?_
      refine q_ev_run 6 (S' := (4, [some (.ref 48), some (.int (((x1 * 10) + m 47 x2.toNatClampNeg) + 1)), some (.int (x2 + 1))], [], qMM m n lm)) rfl ?_
      exact ih m (((x1 * 10) + m 47 x2.toNatClampNeg) + 1) (x2 + 1) _ h hk
noncomputable def F_Ru_figures_46 (m : (Nat → Nat → Int32)) : Option (Int32) :=
  Option.bind (FL_Ru_figures_46_4 qFU m 0 0) (fun y1 =>
    some (y1))
theorem T_Ru_figures_46 {Ln : Nat} {xs : Nat → Int32} {n : (Nat → Nat → Int32)} {lm : Nat → Int64} {d : Nat} (hd : 0 ≤ d) {m : (Nat → Nat → Int32)} {rv : Int32} (h : F_Ru_figures_46 m = some rv) : q_Ev (qXT Ln xs) d 62 (0, [some (.ref 48), none, none], [], qMM m n lm) (some (.int rv), qMM m n lm) := by
  unfold F_Ru_figures_46 at h
  refine q_ev_run 4 (S' := (4, [some (.ref 48), some (.int 0), some (.int 0)], [], qMM m n lm)) rfl ?_
  obtain ⟨y1, hl3, h⟩ := Option.bind_eq_some_iff.mp h
  try dsimp only at h
  refine TL_Ru_figures_46_4 (by first | omega | decide) _ m 0 0 _ hl3 (fun w2 => ?_)
  refine q_ev_run 1 (S' := (33, [some (.ref 48), some (.int y1), w2], [.int y1], qMM m n lm)) rfl ?_
  have h_z0 := Option.some.inj h
  subst h_z0
  exact q_ev_ret rfl rfl
noncomputable def F_Wo_weigh_45 (m : (Nat → Nat → Int32)) : Option ((Nat → Nat → Int32)) :=
  if m 45 0 = (Int32.ofInt (-9)) then
    Option.bind (F_Ru_fewest_46 m) (fun (r2, m3) =>
      Option.bind (F_Ru_figures_46 (q_w m3 45 0 r2)) (fun r5 =>
        some ((q_w (q_w m3 45 0 r2) 45 1 r5))))
  else
    Option.bind (F_Ru_canBeDoneBy_46 m (m 45 0)) (fun (r7, m8) =>
      if r7 = 0 then
        Option.bind (F_Ru_fewest_46 m8) (fun (r11, m12) =>
          Option.bind (F_Ru_figures_46 (q_w m12 45 0 r11)) (fun r14 =>
            some ((q_w (q_w m12 45 0 r11) 45 1 r14))))
      else
        some (m8))
theorem T_Wo_weigh_45 {Ln : Nat} {xs : Nat → Int32} {n : (Nat → Nat → Int32)} {lm : Nat → Int64} {d : Nat} (hd : 24 ≤ d) {m : (Nat → Nat → Int32)} {m1 : (Nat → Nat → Int32)} (h : F_Wo_weigh_45 m = some m1) : q_Ev (qXT Ln xs) d 66 (0, [some (.ref 47)], [], qMM m n lm) (none, qMM m1 n lm) := by
  unfold F_Wo_weigh_45 at h
  refine q_ev_run 3 (S' := (6, [some (.ref 47)], [.int (Int32.ofInt (-9)), .int (m 45 0)], qMM m n lm)) rfl ?_
  by_cases hc1 : m 45 0 = (Int32.ofInt (-9))
  · rw [if_pos hc1] at h
    refine q_ev_brT hc1 (a := 23) (b := 9) rfl ?_
    refine q_ev_run 3 (S' := (28, [some (.ref 47)], [.ref 48, .ref 47], qMM m n lm)) rfl ?_
    obtain ⟨⟨r2, m3⟩, hf4, h⟩ := Option.bind_eq_some_iff.mp h
    try dsimp only at h
    refine q_ev_call (S' := (31, [some (.ref 47)], [.ref 47], qMM m n lm)) rfl (by omega) (T_Ru_fewest_46 (by first | omega | decide) hf4) ?_
    refine q_ev_eq (S' := (31, [some (.ref 47)], [.int r2, .ref 47], qMM m3 n lm)) rfl ?_
    refine q_ev_run 4 (S' := (39, [some (.ref 47)], [.ref 48, .ref 47], qMM (q_w m3 45 0 r2) n lm)) rfl ?_
    obtain ⟨r5, hf6, h⟩ := Option.bind_eq_some_iff.mp h
    try dsimp only at h
    refine q_ev_call (S' := (42, [some (.ref 47)], [.ref 47], qMM (q_w m3 45 0 r2) n lm)) rfl (by omega) (T_Ru_figures_46 (by first | omega | decide) hf6) ?_
    refine q_ev_eq (S' := (42, [some (.ref 47)], [.int r5, .ref 47], qMM (q_w m3 45 0 r2) n lm)) rfl ?_
    refine q_ev_run 1 (S' := (45, [some (.ref 47)], [], qMM (q_w (q_w m3 45 0 r2) 45 1 r5) n lm)) rfl ?_
    have h_z0 := Option.some.inj h
    subst h_z0
    exact q_ev_ret rfl rfl
  · rw [if_neg hc1] at h
    refine q_ev_brF hc1 (a := 23) (b := 9) rfl ?_
    refine q_ev_run 4 (S' := (17, [some (.ref 47)], [.int (m 45 0), .ref 48], qMM m n lm)) rfl ?_
    obtain ⟨⟨r7, m8⟩, hf9, h⟩ := Option.bind_eq_some_iff.mp h
    try dsimp only at h
    refine q_ev_call (S' := (20, [some (.ref 47)], [], qMM m n lm)) rfl (by omega) (T_Ru_canBeDoneBy_46 (by first | omega | decide) hf9) ?_
    refine q_ev_eq (S' := (20, [some (.ref 47)], [.int r7], qMM m8 n lm)) rfl ?_
    by_cases hc10 : r7 = 0
    · rw [if_pos hc10] at h
      refine q_ev_brT hc10 (a := 23) (b := 45) rfl ?_
      refine q_ev_run 3 (S' := (28, [some (.ref 47)], [.ref 48, .ref 47], qMM m8 n lm)) rfl ?_
      obtain ⟨⟨r11, m12⟩, hf13, h⟩ := Option.bind_eq_some_iff.mp h
      try dsimp only at h
      refine q_ev_call (S' := (31, [some (.ref 47)], [.ref 47], qMM m8 n lm)) rfl (by omega) (T_Ru_fewest_46 (by first | omega | decide) hf13) ?_
      refine q_ev_eq (S' := (31, [some (.ref 47)], [.int r11, .ref 47], qMM m12 n lm)) rfl ?_
      refine q_ev_run 4 (S' := (39, [some (.ref 47)], [.ref 48, .ref 47], qMM (q_w m12 45 0 r11) n lm)) rfl ?_
      obtain ⟨r14, hf15, h⟩ := Option.bind_eq_some_iff.mp h
      try dsimp only at h
      refine q_ev_call (S' := (42, [some (.ref 47)], [.ref 47], qMM (q_w m12 45 0 r11) n lm)) rfl (by omega) (T_Ru_figures_46 (by first | omega | decide) hf15) ?_
      refine q_ev_eq (S' := (42, [some (.ref 47)], [.int r14, .ref 47], qMM (q_w m12 45 0 r11) n lm)) rfl ?_
      refine q_ev_run 1 (S' := (45, [some (.ref 47)], [], qMM (q_w (q_w m12 45 0 r11) 45 1 r14) n lm)) rfl ?_
      have h_z0 := Option.some.inj h
      subst h_z0
      exact q_ev_ret rfl rfl
    · rw [if_neg hc10] at h
      refine q_ev_brF hc10 (a := 23) (b := 45) rfl ?_
      have h_z0 := Option.some.inj h
      subst h_z0
      exact q_ev_ret rfl rfl
noncomputable def F_Wo_tryAll_45_9 : Nat → (Nat → Nat → Int32) → Int32 → Option ((Nat → Nat → Int32))
  | 0, _, _ => none
  | dn + 1, m, a2 =>
    if 0 < a2 then
      if 0 < m 46 0 then
        cond (q_in (m 46 0 - 1) 8) (
          Option.bind (FL_Wo_tryAll_45_9_41 (F_Wo_tryAll_45_9 dn) qFU m a2 (m 47 ((m 46 0 - 1)).toNatClampNeg) 0) (fun m5 =>
            some (m5))
         ) none
      else
        some (m)
    else
      Option.bind (F_Wo_weigh_45 m) (fun m7 =>
        some (m7))
theorem T_Wo_tryAll_45_9_r {Ln : Nat} {xs : Nat → Int32} {n : (Nat → Nat → Int32)} {lm : Nat → Int64} : ∀ (dn : Nat) {d : Nat}, dn + 25 ≤ d → ∀ (m : (Nat → Nat → Int32)) (a2 : Int32) (m1 : (Nat → Nat → Int32)), F_Wo_tryAll_45_9 dn m a2 = some m1 → q_Ev (qXT Ln xs) d 65 (0, [some (.ref 47), some (.ref 11), some (.int a2), none, none], [], qMM m n lm) (none, qMM m1 n lm) := by
  intro dn
  induction dn with
  | zero => intro d hd m a2 m1 h; cases h
  | succ dn ihd =>
    intro d hd m a2 m1 h
    have hrec0 : ∀ (m : (Nat → Nat → Int32)) (a2 : Int32) (m1 : (Nat → Nat → Int32)), F_Wo_tryAll_45_9 dn m a2 = some m1 → q_Ev (qXT Ln xs) (d - 1) 65 (0, [some (.ref 47), some (.ref 11), some (.int a2), none, none], [], qMM m n lm) (none, qMM m1 n lm) := fun m a2 m1 hh => ihd (by omega) m a2 m1 hh
    rw [F_Wo_tryAll_45_9] at h
    refine q_ev_run 1 (S' := (1, [some (.ref 47), some (.ref 11), some (.int a2), none, none], [.int a2], qMM m n lm)) rfl ?_
    by_cases hc1 : 0 < a2
    · rw [if_pos hc1] at h
      refine q_ev_brT hc1 (a := 9) (b := 4) rfl ?_
      refine q_ev_run 3 (S' := (16, [some (.ref 47), some (.ref 11), some (.int a2), none, none], [.int (m 46 0)], qMM m n lm)) rfl ?_
      by_cases hc2 : 0 < m 46 0
      · rw [if_pos hc2] at h
        refine q_ev_brT hc2 (a := 20) (b := 19) rfl ?_
        refine q_ev_run 8 (S' := (36, [some (.ref 47), some (.ref 11), some (.int a2), none, none], [.int (m 46 0 - 1), .ref 49], qMM m n lm)) rfl ?_
        obtain ⟨hb3, h⟩ := q_cd h
        refine q_ev_chk (b := q_in (m 46 0 - 1) 8) hb3 (S' := (37, [some (.ref 47), some (.ref 11), some (.int a2), none, none], [.int (m 47 ((m 46 0 - 1)).toNatClampNeg)], qMM m n lm)) rfl ?_
        refine q_ev_run 3 (S' := (41, [some (.ref 47), some (.ref 11), some (.int a2), some (.int (m 47 ((m 46 0 - 1)).toNatClampNeg)), some (.int 0)], [], qMM m n lm)) rfl ?_
        obtain ⟨m5, hl6, h⟩ := Option.bind_eq_some_iff.mp h
        try dsimp only at h
        refine TL_Wo_tryAll_45_9_41 (by first | omega | decide) hrec0 _ m a2 (m 47 ((m 46 0 - 1)).toNatClampNeg) 0 _ hl6 (fun w4 => ?_)
        have h_z0 := Option.some.inj h
        subst h_z0
        exact q_ev_ret rfl rfl
      · rw [if_neg hc2] at h
        refine q_ev_brF hc2 (a := 20) (b := 19) rfl ?_
        have h_z0 := Option.some.inj h
        subst h_z0
        exact q_ev_ret rfl rfl
    · rw [if_neg hc1] at h
      refine q_ev_brF hc1 (a := 9) (b := 4) rfl ?_
      refine q_ev_run 1 (S' := (5, [some (.ref 47), some (.ref 11), some (.int a2), none, none], [.ref 47], qMM m n lm)) rfl ?_
      obtain ⟨m7, hf8, h⟩ := Option.bind_eq_some_iff.mp h
      try dsimp only at h
      refine q_ev_call (S' := (8, [some (.ref 47), some (.ref 11), some (.int a2), none, none], [], qMM m n lm)) rfl (by omega) (T_Wo_weigh_45 (by first | omega | decide) hf8) ?_
      refine q_ev_eq (S' := (8, [some (.ref 47), some (.ref 11), some (.int a2), none, none], [], qMM m7 n lm)) rfl ?_
      have h_z0 := Option.some.inj h
      subst h_z0
      exact q_ev_ret rfl rfl
theorem T_Wo_tryAll_45_9 {Ln : Nat} {xs : Nat → Int32} {n : (Nat → Nat → Int32)} {lm : Nat → Int64} {d dn : Nat} (hd : dn + 25 ≤ d) {m : (Nat → Nat → Int32)} {a2 : Int32} {m1 : (Nat → Nat → Int32)} (h : F_Wo_tryAll_45_9 dn m a2 = some m1) : q_Ev (qXT Ln xs) d 65 (0, [some (.ref 47), some (.ref 11), some (.int a2), none, none], [], qMM m n lm) (none, qMM m1 n lm) := T_Wo_tryAll_45_9_r dn hd m a2 m1 h
noncomputable def F_Wo_lookFrom_45_9 (m : (Nat → Nat → Int32)) (a2 : Int32) (a3 : Int32) : Option ((Nat → Nat → Int32)) :=
  Option.bind (F_Ru_stepTo_46_9 (q_w (q_w (q_w m 45 0 (Int32.ofInt (-9))) 45 1 (Int32.ofInt (-9))) 46 0 0) a2 0) (fun m1 =>
    Option.bind (F_Wo_tryAll_45_9 20 m1 a3) (fun m3 =>
      some (m3)))
theorem T_Wo_lookFrom_45_9 {Ln : Nat} {xs : Nat → Int32} {n : (Nat → Nat → Int32)} {lm : Nat → Int64} {d : Nat} (hd : 46 ≤ d) {m : (Nat → Nat → Int32)} {a2 : Int32} {a3 : Int32} {m1 : (Nat → Nat → Int32)} (h : F_Wo_lookFrom_45_9 m a2 a3 = some m1) : q_Ev (qXT Ln xs) d 64 (0, [some (.ref 47), some (.ref 11), some (.int a2), some (.int a3)], [], qMM m n lm) (none, qMM m1 n lm) := by
  unfold F_Wo_lookFrom_45_9 at h
  refine q_ev_run 15 (S' := (27, [some (.ref 47), some (.ref 11), some (.int a2), some (.int a3)], [.int 0, .int a2, .ref 11, .ref 48], qMM (q_w (q_w (q_w m 45 0 (Int32.ofInt (-9))) 45 1 (Int32.ofInt (-9))) 46 0 0) n lm)) rfl ?_
  obtain ⟨m1, hf2, h⟩ := Option.bind_eq_some_iff.mp h
  try dsimp only at h
  refine q_ev_call (S' := (30, [some (.ref 47), some (.ref 11), some (.int a2), some (.int a3)], [], qMM (q_w (q_w (q_w m 45 0 (Int32.ofInt (-9))) 45 1 (Int32.ofInt (-9))) 46 0 0) n lm)) rfl (by omega) (T_Ru_stepTo_46_9 (by first | omega | decide) hf2) ?_
  refine q_ev_eq (S' := (30, [some (.ref 47), some (.ref 11), some (.int a2), some (.int a3)], [], qMM m1 n lm)) rfl ?_
  refine q_ev_run 3 (S' := (33, [some (.ref 47), some (.ref 11), some (.int a2), some (.int a3)], [.int a3, .ref 11, .ref 47], qMM m1 n lm)) rfl ?_
  obtain ⟨m3, hf4, h⟩ := Option.bind_eq_some_iff.mp h
  try dsimp only at h
  refine q_ev_call (S' := (36, [some (.ref 47), some (.ref 11), some (.int a2), some (.int a3)], [], qMM m1 n lm)) rfl (by omega) (T_Wo_tryAll_45_9 (by first | omega | decide) hf4) ?_
  refine q_ev_eq (S' := (36, [some (.ref 47), some (.ref 11), some (.int a2), some (.int a3)], [], qMM m3 n lm)) rfl ?_
  have h_z0 := Option.some.inj h
  subst h_z0
  exact q_ev_ret rfl rfl
noncomputable def F_AT_worst (m : (Nat → Nat → Int32)) (a1 : Int32) (a2 : Int32) (a3 : Int32) : Option (Int32 × (Nat → Nat → Int32)) :=
  Option.bind (F_La_hasPlace_9 m a1) (fun r1 =>
    if r1 = 0 then
      some ((Int32.ofInt (-1)), m)
    else
      if a2 < 0 then
        some ((Int32.ofInt (-1)), m)
      else
        if 4 < a2 then
          some ((Int32.ofInt (-1)), m)
        else
          if a3 < 0 then
            some ((Int32.ofInt (-1)), m)
          else
            if a3 ≤ 1 then
              Option.bind (F_Wo_lookFrom_45_9 m a1 a2) (fun m8 =>
                if a3 = 0 then
                  some (m8 45 0, m8)
                else
                  some (m8 45 1, m8))
            else
              some ((Int32.ofInt (-1)), m))
theorem T_AT_worst {Ln : Nat} {xs : Nat → Int32} {n : (Nat → Nat → Int32)} {lm : Nat → Int64} {d : Nat} (hd : 47 ≤ d) {m : (Nat → Nat → Int32)} {a1 : Int32} {a2 : Int32} {a3 : Int32} {rv : Int32} {m1 : (Nat → Nat → Int32)} (h : F_AT_worst m a1 a2 a3 = some (rv, m1)) : q_Ev (qXT Ln xs) d 83 (0, [some (.ref 0), some (.int a1), some (.int a2), some (.int a3)], [], qMM m n lm) (some (.int rv), qMM m1 n lm) := by
  unfold F_AT_worst at h
  refine q_ev_run 3 (S' := (5, [some (.ref 0), some (.int a1), some (.int a2), some (.int a3)], [.int a1, .ref 11], qMM m n lm)) rfl ?_
  obtain ⟨r1, hf2, h⟩ := Option.bind_eq_some_iff.mp h
  try dsimp only at h
  refine q_ev_call (S' := (8, [some (.ref 0), some (.int a1), some (.int a2), some (.int a3)], [], qMM m n lm)) rfl (by omega) (T_La_hasPlace_9 (by first | omega | decide) hf2) ?_
  refine q_ev_eq (S' := (8, [some (.ref 0), some (.int a1), some (.int a2), some (.int a3)], [.int r1], qMM m n lm)) rfl ?_
  by_cases hc3 : r1 = 0
  · rw [if_pos hc3] at h
    refine q_ev_brT hc3 (a := 29) (b := 11) rfl ?_
    refine q_ev_run 1 (S' := (30, [some (.ref 0), some (.int a1), some (.int a2), some (.int a3)], [.int (Int32.ofInt (-1))], qMM m n lm)) rfl ?_
    have h_z0 := Option.some.inj h
    obtain ⟨h_0, h_z1⟩ := Prod.mk.inj h_z0
    subst h_0
    subst h_z1
    exact q_ev_ret rfl rfl
  · rw [if_neg hc3] at h
    refine q_ev_brF hc3 (a := 29) (b := 11) rfl ?_
    refine q_ev_run 1 (S' := (12, [some (.ref 0), some (.int a1), some (.int a2), some (.int a3)], [.int a2], qMM m n lm)) rfl ?_
    by_cases hc4 : a2 < 0
    · rw [if_pos hc4] at h
      refine q_ev_brT hc4 (a := 29) (b := 15) rfl ?_
      refine q_ev_run 1 (S' := (30, [some (.ref 0), some (.int a1), some (.int a2), some (.int a3)], [.int (Int32.ofInt (-1))], qMM m n lm)) rfl ?_
      have h_z0 := Option.some.inj h
      obtain ⟨h_0, h_z1⟩ := Prod.mk.inj h_z0
      subst h_0
      subst h_z1
      exact q_ev_ret rfl rfl
    · rw [if_neg hc4] at h
      refine q_ev_brF hc4 (a := 29) (b := 15) rfl ?_
      refine q_ev_run 2 (S' := (17, [some (.ref 0), some (.int a1), some (.int a2), some (.int a3)], [.int 4, .int a2], qMM m n lm)) rfl ?_
      by_cases hc5 : 4 < a2
      · rw [if_pos hc5] at h
        refine q_ev_brT hc5 (a := 29) (b := 20) rfl ?_
        refine q_ev_run 1 (S' := (30, [some (.ref 0), some (.int a1), some (.int a2), some (.int a3)], [.int (Int32.ofInt (-1))], qMM m n lm)) rfl ?_
        have h_z0 := Option.some.inj h
        obtain ⟨h_0, h_z1⟩ := Prod.mk.inj h_z0
        subst h_0
        subst h_z1
        exact q_ev_ret rfl rfl
      · rw [if_neg hc5] at h
        refine q_ev_brF hc5 (a := 29) (b := 20) rfl ?_
        refine q_ev_run 1 (S' := (21, [some (.ref 0), some (.int a1), some (.int a2), some (.int a3)], [.int a3], qMM m n lm)) rfl ?_
        by_cases hc6 : a3 < 0
        · rw [if_pos hc6] at h
          refine q_ev_brT hc6 (a := 29) (b := 24) rfl ?_
          refine q_ev_run 1 (S' := (30, [some (.ref 0), some (.int a1), some (.int a2), some (.int a3)], [.int (Int32.ofInt (-1))], qMM m n lm)) rfl ?_
          have h_z0 := Option.some.inj h
          obtain ⟨h_0, h_z1⟩ := Prod.mk.inj h_z0
          subst h_0
          subst h_z1
          exact q_ev_ret rfl rfl
        · rw [if_neg hc6] at h
          refine q_ev_brF hc6 (a := 29) (b := 24) rfl ?_
          refine q_ev_run 2 (S' := (26, [some (.ref 0), some (.int a1), some (.int a2), some (.int a3)], [.int 1, .int a3], qMM m n lm)) rfl ?_
          by_cases hc7 : a3 ≤ 1
          · rw [if_pos hc7] at h
            refine q_ev_brT hc7 (a := 31) (b := 29) rfl ?_
            refine q_ev_run 6 (S' := (41, [some (.ref 0), some (.int a1), some (.int a2), some (.int a3)], [.int a2, .int a1, .ref 11, .ref 47], qMM m n lm)) rfl ?_
            obtain ⟨m8, hf9, h⟩ := Option.bind_eq_some_iff.mp h
            try dsimp only at h
            refine q_ev_call (S' := (44, [some (.ref 0), some (.int a1), some (.int a2), some (.int a3)], [], qMM m n lm)) rfl (by omega) (T_Wo_lookFrom_45_9 (by first | omega | decide) hf9) ?_
            refine q_ev_eq (S' := (44, [some (.ref 0), some (.int a1), some (.int a2), some (.int a3)], [], qMM m8 n lm)) rfl ?_
            refine q_ev_run 1 (S' := (45, [some (.ref 0), some (.int a1), some (.int a2), some (.int a3)], [.int a3], qMM m8 n lm)) rfl ?_
            by_cases hc10 : a3 = 0
            · rw [if_pos hc10] at h
              refine q_ev_brT hc10 (a := 48) (b := 58) rfl ?_
              refine q_ev_run 4 (S' := (65, [some (.ref 0), some (.int a1), some (.int a2), some (.int a3)], [.int (m8 45 0)], qMM m8 n lm)) rfl ?_
              have h_z0 := Option.some.inj h
              obtain ⟨h_0, h_z1⟩ := Prod.mk.inj h_z0
              subst h_0
              subst h_z1
              exact q_ev_ret rfl rfl
            · rw [if_neg hc10] at h
              refine q_ev_brF hc10 (a := 48) (b := 58) rfl ?_
              refine q_ev_run 3 (S' := (65, [some (.ref 0), some (.int a1), some (.int a2), some (.int a3)], [.int (m8 45 1)], qMM m8 n lm)) rfl ?_
              have h_z0 := Option.some.inj h
              obtain ⟨h_0, h_z1⟩ := Prod.mk.inj h_z0
              subst h_0
              subst h_z1
              exact q_ev_ret rfl rfl
          · rw [if_neg hc7] at h
            refine q_ev_brF hc7 (a := 31) (b := 29) rfl ?_
            refine q_ev_run 1 (S' := (30, [some (.ref 0), some (.int a1), some (.int a2), some (.int a3)], [.int (Int32.ofInt (-1))], qMM m n lm)) rfl ?_
            have h_z0 := Option.some.inj h
            obtain ⟨h_0, h_z1⟩ := Prod.mk.inj h_z0
            subst h_0
            subst h_z1
            exact q_ev_ret rfl rfl
noncomputable def FL_Mo_worst_34 : Nat → (Nat → Nat → Int32) → Int32 → Int32 → Int32 → Int32 → Int32 → Option (Int32)
  | 0, _, _, _, _, _, _ => none
  | fu + 1, m, x1, x2, x3, x4, x5 =>
    if x2 ≤ x5 then
      some (x4)
    else
      FL_Mo_worst_34 fu m x1 x2 x3 (x4 * 8) (x5 + 1)
theorem TL_Mo_worst_34 {Ln : Nat} {xs : Nat → Int32} {n : (Nat → Nat → Int32)} {lm : Nat → Int64} {d : Nat} (hd : 0 ≤ d) {r : Option Value × qM} : ∀ (fu : Nat) (m : (Nat → Nat → Int32)) (x1 : Int32) (x2 : Int32) (x3 : Int32) (x4 : Int32) (x5 : Int32) (w6 : Option Value) (w7 : Option Value) (w8 : Option Value) (w9 : Option Value) (y4 : Int32), FL_Mo_worst_34 fu m x1 x2 x3 x4 x5 = some y4 → (∀ (u5 u6 u7 u8 u9 : Option Value), q_Ev (qXT Ln xs) d 154 (53, [some (.ref 58), some (.int x1), some (.int x2), some (.int x3), some (.int y4), u5, u6, u7, u8, u9], [], qMM n m lm) r) → q_Ev (qXT Ln xs) d 154 (34, [some (.ref 58), some (.int x1), some (.int x2), some (.int x3), some (.int x4), some (.int x5), w6, w7, w8, w9], [], qMM n m lm) r := by
  intro fu
  induction fu with
  | zero => intro m x1 x2 x3 x4 x5 w6 w7 w8 w9 y4 h hk; cases h
  | succ fu ih =>
    intro m x1 x2 x3 x4 x5 w6 w7 w8 w9 y4 h hk
    rw [FL_Mo_worst_34] at h
    refine q_ev_run 2 (S' := (37, [some (.ref 58), some (.int x1), some (.int x2), some (.int x3), some (.int x4), some (.int x5), w6, w7, w8, w9], [.int x2, .int x5], qMM n m lm)) rfl ?_
    by_cases hc1 : x2 ≤ x5
    · rw [if_pos hc1] at h
      refine q_ev_brT hc1 (a := 53) (b := 40) rfl ?_
      have h_z0 := Option.some.inj h
      subst h_z0
      exact hk (some (.int x5)) (w6) (w7) (w8) (w9)
    · rw [if_neg hc1] at h
      refine q_ev_brF hc1 (a := 53) (b := 40) rfl ?_
      refine q_ev_run 6 (S' := (34, [some (.ref 58), some (.int x1), some (.int x2), some (.int x3), some (.int (x4 * 8)), some (.int (x5 + 1)), w6, w7, w8, w9], [], qMM n m lm)) rfl ?_
      exact ih m x1 x2 x3 (x4 * 8) (x5 + 1) (w6) (w7) (w8) (w9) _ h hk
noncomputable def FL_Mo_laysCourse_27 : Nat → (Nat → Nat → Int32) → Int32 → Int32 → Int32 → Int32 → Option (Int32)
  | 0, _, _, _, _, _ => none
  | fu + 1, m, x2, x3, x4, x5 =>
    if x2 ≤ x5 then
      some (x4)
    else
      FL_Mo_laysCourse_27 fu m x2 x3 (x4 * 8) (x5 + 1)
theorem TL_Mo_laysCourse_27 {Ln : Nat} {xs : Nat → Int32} {n : (Nat → Nat → Int32)} {lm : Nat → Int64} {d : Nat} (hd : 0 ≤ d) {r : Option Value × qM} : ∀ (fu : Nat) (m : (Nat → Nat → Int32)) (x2 : Int32) (x3 : Int32) (x4 : Int32) (x5 : Int32) (w1 : Option Value) (w6 : Option Value) (y4 : Int32), FL_Mo_laysCourse_27 fu m x2 x3 x4 x5 = some y4 → (∀ (u1 u5 u6 : Option Value), q_Ev (qXT Ln xs) d 153 (46, [some (.ref 58), u1, some (.int x2), some (.int x3), some (.int y4), u5, u6], [], qMM n m lm) r) → q_Ev (qXT Ln xs) d 153 (27, [some (.ref 58), w1, some (.int x2), some (.int x3), some (.int x4), some (.int x5), w6], [], qMM n m lm) r := by
  intro fu
  induction fu with
  | zero => intro m x2 x3 x4 x5 w1 w6 y4 h hk; cases h
  | succ fu ih =>
    intro m x2 x3 x4 x5 w1 w6 y4 h hk
    rw [FL_Mo_laysCourse_27] at h
    refine q_ev_run 2 (S' := (30, [some (.ref 58), w1, some (.int x2), some (.int x3), some (.int x4), some (.int x5), w6], [.int x2, .int x5], qMM n m lm)) rfl ?_
    by_cases hc1 : x2 ≤ x5
    · rw [if_pos hc1] at h
      refine q_ev_brT hc1 (a := 46) (b := 33) rfl ?_
      have h_z0 := Option.some.inj h
      subst h_z0
      exact hk (w1) (some (.int x5)) (w6)
    · rw [if_neg hc1] at h
      refine q_ev_brF hc1 (a := 46) (b := 33) rfl ?_
      refine q_ev_run 6 (S' := (27, [some (.ref 58), w1, some (.int x2), some (.int x3), some (.int (x4 * 8)), some (.int (x5 + 1)), w6], [], qMM n m lm)) rfl ?_
      exact ih m x2 x3 (x4 * 8) (x5 + 1) (w1) (w6) _ h hk
noncomputable def FL_Mo_laysCourse_49 : Nat → (Nat → Nat → Int32) → Int32 → Int32 → Int32 → Int32 → Option ((Int32 × (Nat → Nat → Int32)) ⊕ ((Nat → Nat → Int32)))
  | 0, _, _, _, _, _ => none
  | fu + 1, m, x2, x3, x4, x5 =>
    if x2 < x5 then
      some (.inr m)
    else
      if x4 = 0 then none else (
        Option.bind (F_Mo_isPlace m ((x3 / x4) - (x3 / x4) / 8 * 8)) (fun r3 =>
          if r3 = 0 then
            some (.inl (0, m))
          else
            cond (q_in (x5 - 1) 8) (
              cond (q_in ((21 + (8 * m 65 ((x5 - 1)).toNatClampNeg)) + ((x3 / x4) - (x3 / x4) / 8 * 8)) 93) (
                if m 58 (((21 + (8 * m 65 ((x5 - 1)).toNatClampNeg)) + ((x3 / x4) - (x3 / x4) / 8 * 8))).toNatClampNeg = 0 then
                  some (.inl (0, m))
                else
                  cond (q_in x5 8) (cond (q_in (x5 - 1) 8) (cond (q_in (x5 - 1) 8) (cond (q_in ((21 + (8 * (q_w m 65 x5.toNatClampNeg ((x3 / x4) - (x3 / x4) / 8 * 8)) 65 ((x5 - 1)).toNatClampNeg)) + ((x3 / x4) - (x3 / x4) / 8 * 8)) 93) (cond (q_in x5 8) (FL_Mo_laysCourse_49 fu (q_w (q_w m 65 x5.toNatClampNeg ((x3 / x4) - (x3 / x4) / 8 * 8)) 66 x5.toNatClampNeg ((m 66 ((x5 - 1)).toNatClampNeg + m 58 (((21 + (8 * (q_w m 65 x5.toNatClampNeg ((x3 / x4) - (x3 / x4) / 8 * 8)) 65 ((x5 - 1)).toNatClampNeg)) + ((x3 / x4) - (x3 / x4) / 8 * 8))).toNatClampNeg) + ((x5 - 1) * m 58 4))) x2 x3 (x4 / 8) (x5 + 1)) none) none) none) none) none
               ) none
             ) none)
       )
theorem TL_Mo_laysCourse_49 {Ln : Nat} {xs : Nat → Int32} {n : (Nat → Nat → Int32)} {lm : Nat → Int64} {d : Nat} (hd : 2 ≤ d) {r : Option Value × qM} : ∀ (fu : Nat) (m : (Nat → Nat → Int32)) (x2 : Int32) (x3 : Int32) (x4 : Int32) (x5 : Int32) (w1 : Option Value) (w6 : Option Value) (o : (Int32 × (Nat → Nat → Int32)) ⊕ ((Nat → Nat → Int32))), FL_Mo_laysCourse_49 fu m x2 x3 x4 x5 = some o → (∀ (rv : Int32) (m1 : (Nat → Nat → Int32)), o = .inl (rv, m1) → r = (some (.int rv), qMM n m1 lm)) → (∀ (m1 : (Nat → Nat → Int32)), o = .inr m1 → ∀ (u1 u4 u5 u6 : Option Value), q_Ev (qXT Ln xs) d 153 (175, [some (.ref 58), u1, some (.int x2), some (.int x3), u4, u5, u6], [], qMM n m1 lm) r) → q_Ev (qXT Ln xs) d 153 (49, [some (.ref 58), w1, some (.int x2), some (.int x3), some (.int x4), some (.int x5), w6], [], qMM n m lm) r := by
  intro fu
  induction fu with
  | zero => intro m x2 x3 x4 x5 w1 w6 o h hr hk; cases h
  | succ fu ih =>
    intro m x2 x3 x4 x5 w1 w6 o h hr hk
    rw [FL_Mo_laysCourse_49] at h
    refine q_ev_run 2 (S' := (52, [some (.ref 58), w1, some (.int x2), some (.int x3), some (.int x4), some (.int x5), w6], [.int x2, .int x5], qMM n m lm)) rfl ?_
    by_cases hc1 : x2 < x5
    · rw [if_pos hc1] at h
      refine q_ev_brT hc1 (a := 175) (b := 55) rfl ?_
      obtain rfl := (Option.some.inj h).symm
      exact hk _ rfl (w1) (some (.int x4)) (some (.int x5)) (w6)
    · rw [if_neg hc1] at h
      refine q_ev_brF hc1 (a := 175) (b := 55) rfl ?_
      refine q_ev_run 2 (S' := (58, [some (.ref 58), w1, some (.int x2), some (.int x3), some (.int x4), some (.int x5), w6], [.int x4, .int x3], qMM n m lm)) rfl ?_
      by_cases hz2 : x4 = 0
      · rw [if_pos hz2] at h; cases h
      rw [if_neg hz2] at h
      refine q_ev_nz hz2 (S' := (59, [some (.ref 58), w1, some (.int x2), some (.int x3), some (.int x4), some (.int x5), w6], [.int (x3 / x4)], qMM n m lm)) rfl ?_
      refine q_ev_run 9 (S' := (74, [some (.ref 58), w1, some (.int x2), some (.int x3), some (.int (x4 / 8)), some (.int x5), some (.int ((x3 / x4) - (x3 / x4) / 8 * 8))], [.int ((x3 / x4) - (x3 / x4) / 8 * 8), .ref 58], qMM n m lm)) rfl ?_
      obtain ⟨r3, hf4, h⟩ := Option.bind_eq_some_iff.mp h
      try dsimp only at h
      refine q_ev_call (S' := (77, [some (.ref 58), w1, some (.int x2), some (.int x3), some (.int (x4 / 8)), some (.int x5), some (.int ((x3 / x4) - (x3 / x4) / 8 * 8))], [], qMM n m lm)) rfl (by omega) (T_Mo_isPlace (by first | omega | decide) hf4) ?_
      refine q_ev_eq (S' := (77, [some (.ref 58), w1, some (.int x2), some (.int x3), some (.int (x4 / 8)), some (.int x5), some (.int ((x3 / x4) - (x3 / x4) / 8 * 8))], [.int r3], qMM n m lm)) rfl ?_
      by_cases hc5 : r3 = 0
      · rw [if_pos hc5] at h
        refine q_ev_brT hc5 (a := 106) (b := 80) rfl ?_
        refine q_ev_run 1 (S' := (107, [some (.ref 58), w1, some (.int x2), some (.int x3), some (.int (x4 / 8)), some (.int x5), some (.int ((x3 / x4) - (x3 / x4) / 8 * 8))], [.int 0], qMM n m lm)) rfl ?_
        obtain rfl := (Option.some.inj h).symm
        rw [hr _ _ rfl]
        exact q_ev_ret rfl rfl
      · rw [if_neg hc5] at h
        refine q_ev_brF hc5 (a := 106) (b := 80) rfl ?_
        refine q_ev_run 9 (S' := (96, [some (.ref 58), w1, some (.int x2), some (.int x3), some (.int (x4 / 8)), some (.int x5), some (.int ((x3 / x4) - (x3 / x4) / 8 * 8))], [.int (x5 - 1), .ref 67, .int 8, .int 21, .ref 60], qMM n m lm)) rfl ?_
        obtain ⟨hb6, h⟩ := q_cd h
        refine q_ev_chk (b := q_in (x5 - 1) 8) hb6 (S' := (97, [some (.ref 58), w1, some (.int x2), some (.int x3), some (.int (x4 / 8)), some (.int x5), some (.int ((x3 / x4) - (x3 / x4) / 8 * 8))], [.int (m 65 ((x5 - 1)).toNatClampNeg), .int 8, .int 21, .ref 60], qMM n m lm)) rfl ?_
        refine q_ev_run 4 (S' := (102, [some (.ref 58), w1, some (.int x2), some (.int x3), some (.int (x4 / 8)), some (.int x5), some (.int ((x3 / x4) - (x3 / x4) / 8 * 8))], [.int ((21 + (8 * m 65 ((x5 - 1)).toNatClampNeg)) + ((x3 / x4) - (x3 / x4) / 8 * 8)), .ref 60], qMM n m lm)) rfl ?_
        obtain ⟨hb7, h⟩ := q_cd h
        refine q_ev_chk (b := q_in ((21 + (8 * m 65 ((x5 - 1)).toNatClampNeg)) + ((x3 / x4) - (x3 / x4) / 8 * 8)) 93) hb7 (S' := (103, [some (.ref 58), w1, some (.int x2), some (.int x3), some (.int (x4 / 8)), some (.int x5), some (.int ((x3 / x4) - (x3 / x4) / 8 * 8))], [.int (m 58 (((21 + (8 * m 65 ((x5 - 1)).toNatClampNeg)) + ((x3 / x4) - (x3 / x4) / 8 * 8))).toNatClampNeg)], qMM n m lm)) rfl ?_
        by_cases hc8 : m 58 (((21 + (8 * m 65 ((x5 - 1)).toNatClampNeg)) + ((x3 / x4) - (x3 / x4) / 8 * 8))).toNatClampNeg = 0
        · rw [if_pos hc8] at h
          refine q_ev_brT hc8 (a := 106) (b := 108) rfl ?_
          refine q_ev_run 1 (S' := (107, [some (.ref 58), w1, some (.int x2), some (.int x3), some (.int (x4 / 8)), some (.int x5), some (.int ((x3 / x4) - (x3 / x4) / 8 * 8))], [.int 0], qMM n m lm)) rfl ?_
          obtain rfl := (Option.some.inj h).symm
          rw [hr _ _ rfl]
          exact q_ev_ret rfl rfl
        · rw [if_neg hc8] at h
          refine q_ev_brF hc8 (a := 106) (b := 108) rfl ?_
          refine q_ev_run 4 (S' := (116, [some (.ref 58), w1, some (.int x2), some (.int x3), some (.int (x4 / 8)), some (.int x5), some (.int ((x3 / x4) - (x3 / x4) / 8 * 8))], [.int ((x3 / x4) - (x3 / x4) / 8 * 8), .int x5, .ref 67], qMM n m lm)) rfl ?_
          obtain ⟨hb9, h⟩ := q_cd h
          refine q_ev_chk (b := q_in x5 8) hb9 (S' := (117, [some (.ref 58), w1, some (.int x2), some (.int x3), some (.int (x4 / 8)), some (.int x5), some (.int ((x3 / x4) - (x3 / x4) / 8 * 8))], [], qMM n (q_w m 65 x5.toNatClampNeg ((x3 / x4) - (x3 / x4) / 8 * 8)) lm)) rfl ?_
          refine q_ev_run 8 (S' := (131, [some (.ref 58), w1, some (.int x2), some (.int x3), some (.int (x4 / 8)), some (.int x5), some (.int ((x3 / x4) - (x3 / x4) / 8 * 8))], [.int (x5 - 1), .ref 68, .int x5, .ref 68], qMM n (q_w m 65 x5.toNatClampNeg ((x3 / x4) - (x3 / x4) / 8 * 8)) lm)) rfl ?_
          obtain ⟨hb10, h⟩ := q_cd h
          refine q_ev_chk (b := q_in (x5 - 1) 8) hb10 (S' := (132, [some (.ref 58), w1, some (.int x2), some (.int x3), some (.int (x4 / 8)), some (.int x5), some (.int ((x3 / x4) - (x3 / x4) / 8 * 8))], [.int (m 66 ((x5 - 1)).toNatClampNeg), .int x5, .ref 68], qMM n (q_w m 65 x5.toNatClampNeg ((x3 / x4) - (x3 / x4) / 8 * 8)) lm)) rfl ?_
          refine q_ev_run 9 (S' := (148, [some (.ref 58), w1, some (.int x2), some (.int x3), some (.int (x4 / 8)), some (.int x5), some (.int ((x3 / x4) - (x3 / x4) / 8 * 8))], [.int (x5 - 1), .ref 67, .int 8, .int 21, .ref 60, .int (m 66 ((x5 - 1)).toNatClampNeg), .int x5, .ref 68], qMM n (q_w m 65 x5.toNatClampNeg ((x3 / x4) - (x3 / x4) / 8 * 8)) lm)) rfl ?_
          obtain ⟨hb11, h⟩ := q_cd h
          refine q_ev_chk (b := q_in (x5 - 1) 8) hb11 (S' := (149, [some (.ref 58), w1, some (.int x2), some (.int x3), some (.int (x4 / 8)), some (.int x5), some (.int ((x3 / x4) - (x3 / x4) / 8 * 8))], [.int ((q_w m 65 x5.toNatClampNeg ((x3 / x4) - (x3 / x4) / 8 * 8)) 65 ((x5 - 1)).toNatClampNeg), .int 8, .int 21, .ref 60, .int (m 66 ((x5 - 1)).toNatClampNeg), .int x5, .ref 68], qMM n (q_w m 65 x5.toNatClampNeg ((x3 / x4) - (x3 / x4) / 8 * 8)) lm)) rfl ?_
          refine q_ev_run 4 (S' := (154, [some (.ref 58), w1, some (.int x2), some (.int x3), some (.int (x4 / 8)), some (.int x5), some (.int ((x3 / x4) - (x3 / x4) / 8 * 8))], [.int ((21 + (8 * (q_w m 65 x5.toNatClampNeg ((x3 / x4) - (x3 / x4) / 8 * 8)) 65 ((x5 - 1)).toNatClampNeg)) + ((x3 / x4) - (x3 / x4) / 8 * 8)), .ref 60, .int (m 66 ((x5 - 1)).toNatClampNeg), .int x5, .ref 68], qMM n (q_w m 65 x5.toNatClampNeg ((x3 / x4) - (x3 / x4) / 8 * 8)) lm)) rfl ?_
          obtain ⟨hb12, h⟩ := q_cd h
          refine q_ev_chk (b := q_in ((21 + (8 * (q_w m 65 x5.toNatClampNeg ((x3 / x4) - (x3 / x4) / 8 * 8)) 65 ((x5 - 1)).toNatClampNeg)) + ((x3 / x4) - (x3 / x4) / 8 * 8)) 93) hb12 (S' := (155, [some (.ref 58), w1, some (.int x2), some (.int x3), some (.int (x4 / 8)), some (.int x5), some (.int ((x3 / x4) - (x3 / x4) / 8 * 8))], [.int (m 58 (((21 + (8 * (q_w m 65 x5.toNatClampNeg ((x3 / x4) - (x3 / x4) / 8 * 8)) 65 ((x5 - 1)).toNatClampNeg)) + ((x3 / x4) - (x3 / x4) / 8 * 8))).toNatClampNeg), .int (m 66 ((x5 - 1)).toNatClampNeg), .int x5, .ref 68], qMM n (q_w m 65 x5.toNatClampNeg ((x3 / x4) - (x3 / x4) / 8 * 8)) lm)) rfl ?_
          refine q_ev_run 10 (S' := (168, [some (.ref 58), w1, some (.int x2), some (.int x3), some (.int (x4 / 8)), some (.int x5), some (.int ((x3 / x4) - (x3 / x4) / 8 * 8))], [.int ((m 66 ((x5 - 1)).toNatClampNeg + m 58 (((21 + (8 * (q_w m 65 x5.toNatClampNeg ((x3 / x4) - (x3 / x4) / 8 * 8)) 65 ((x5 - 1)).toNatClampNeg)) + ((x3 / x4) - (x3 / x4) / 8 * 8))).toNatClampNeg) + ((x5 - 1) * m 58 4)), .int x5, .ref 68], qMM n (q_w m 65 x5.toNatClampNeg ((x3 / x4) - (x3 / x4) / 8 * 8)) lm)) rfl ?_
          obtain ⟨hb13, h⟩ := q_cd h
          refine q_ev_chk (b := q_in x5 8) hb13 (S' := (169, [some (.ref 58), w1, some (.int x2), some (.int x3), some (.int (x4 / 8)), some (.int x5), some (.int ((x3 / x4) - (x3 / x4) / 8 * 8))], [], qMM n (q_w (q_w m 65 x5.toNatClampNeg ((x3 / x4) - (x3 / x4) / 8 * 8)) 66 x5.toNatClampNeg ((m 66 ((x5 - 1)).toNatClampNeg + m 58 (((21 + (8 * (q_w m 65 x5.toNatClampNeg ((x3 / x4) - (x3 / x4) / 8 * 8)) 65 ((x5 - 1)).toNatClampNeg)) + ((x3 / x4) - (x3 / x4) / 8 * 8))).toNatClampNeg) + ((x5 - 1) * m 58 4))) lm)) rfl ?_
          refine q_ev_run 2 (S' := (49, [some (.ref 58), w1, some (.int x2), some (.int x3), some (.int (x4 / 8)), some (.int (x5 + 1)), some (.int ((x3 / x4) - (x3 / x4) / 8 * 8))], [], qMM n (q_w (q_w m 65 x5.toNatClampNeg ((x3 / x4) - (x3 / x4) / 8 * 8)) 66 x5.toNatClampNeg ((m 66 ((x5 - 1)).toNatClampNeg + m 58 (((21 + (8 * (q_w m 65 x5.toNatClampNeg ((x3 / x4) - (x3 / x4) / 8 * 8)) 65 ((x5 - 1)).toNatClampNeg)) + ((x3 / x4) - (x3 / x4) / 8 * 8))).toNatClampNeg) + ((x5 - 1) * m 58 4))) lm)) rfl ?_
          exact ih (q_w (q_w m 65 x5.toNatClampNeg ((x3 / x4) - (x3 / x4) / 8 * 8)) 66 x5.toNatClampNeg ((m 66 ((x5 - 1)).toNatClampNeg + m 58 (((21 + (8 * (q_w m 65 x5.toNatClampNeg ((x3 / x4) - (x3 / x4) / 8 * 8)) 65 ((x5 - 1)).toNatClampNeg)) + ((x3 / x4) - (x3 / x4) / 8 * 8))).toNatClampNeg) + ((x5 - 1) * m 58 4))) x2 x3 (x4 / 8) (x5 + 1) (w1) (some (.int ((x3 / x4) - (x3 / x4) / 8 * 8))) _ h hr hk
