noncomputable def FL_Mo_tells_148 : Nat → (Nat → Nat → Int32) → Int32 → Int32 → Option ((Nat → Nat → Int32))
  | 0, _, _, _ => none
  | fu + 1, m, x1, x2 =>
    if 64 ≤ x2 then
      some (m)
    else
      cond (q_in (((x2 / 8) * 8) + x1) 64) (
        cond (q_in ((8 * x1) + (x2 - x2 / 8 * 8)) 64) (
          if m 64 ((((x2 / 8) * 8) + x1)).toNatClampNeg = (Int32.ofInt (-9)) then
            cond (q_in x2 64) (cond (q_in x2 64) (FL_Mo_tells_148 fu (q_w m 64 x2.toNatClampNeg (m 64 x2.toNatClampNeg)) x1 (x2 + 1)) none) none
          else
            if m 64 (((8 * x1) + (x2 - x2 / 8 * 8))).toNatClampNeg = (Int32.ofInt (-9)) then
              cond (q_in x2 64) (cond (q_in x2 64) (FL_Mo_tells_148 fu (q_w m 64 x2.toNatClampNeg (m 64 x2.toNatClampNeg)) x1 (x2 + 1)) none) none
            else
              cond (q_in x2 64) (
                if m 64 x2.toNatClampNeg = (Int32.ofInt (-9)) then
                  cond (q_in x2 64) (FL_Mo_tells_148 fu (q_w m 64 x2.toNatClampNeg (m 64 ((((x2 / 8) * 8) + x1)).toNatClampNeg + m 64 (((8 * x1) + (x2 - x2 / 8 * 8))).toNatClampNeg)) x1 (x2 + 1)) none
                else
                  cond (q_in x2 64) (
                    if m 64 x2.toNatClampNeg ≤ (m 64 ((((x2 / 8) * 8) + x1)).toNatClampNeg + m 64 (((8 * x1) + (x2 - x2 / 8 * 8))).toNatClampNeg) then
                      cond (q_in x2 64) (cond (q_in x2 64) (FL_Mo_tells_148 fu (q_w m 64 x2.toNatClampNeg (m 64 x2.toNatClampNeg)) x1 (x2 + 1)) none) none
                    else
                      cond (q_in x2 64) (FL_Mo_tells_148 fu (q_w m 64 x2.toNatClampNeg (m 64 ((((x2 / 8) * 8) + x1)).toNatClampNeg + m 64 (((8 * x1) + (x2 - x2 / 8 * 8))).toNatClampNeg)) x1 (x2 + 1)) none
                   ) none
               ) none
         ) none
       ) none
theorem TL_Mo_tells_148 {Ln : Nat} {xs : Nat → Int32} {n : (Nat → Nat → Int32)} {lm : Nat → Int64} {d : Nat} (hd : 0 ≤ d) {r : Option Value × qM} : ∀ (fu : Nat) (m : (Nat → Nat → Int32)) (x1 : Int32) (x2 : Int32) (w3 : Option Value) (w4 : Option Value) (w5 : Option Value) (m1 : (Nat → Nat → Int32)), FL_Mo_tells_148 fu m x1 x2 = some m1 → (∀ (u2 u3 u4 u5 : Option Value), q_Ev (qXT Ln xs) d 125 (259, [some (.ref 58), some (.int x1), u2, u3, u4, u5], [], qMM n m1 lm) r) → q_Ev (qXT Ln xs) d 125 (148, [some (.ref 58), some (.int x1), some (.int x2), w3, w4, w5], [], qMM n m lm) r := by
  intro fu
  induction fu with
  | zero => intro m x1 x2 w3 w4 w5 m1 h hk; cases h
  | succ fu ih =>
    intro m x1 x2 w3 w4 w5 m1 h hk
    rw [FL_Mo_tells_148] at h
    refine q_ev_run 2 (S' := (151, [some (.ref 58), some (.int x1), some (.int x2), w3, w4, w5], [.int 64, .int x2], qMM n m lm)) rfl ?_
    by_cases hc1 : 64 ≤ x2
    · rw [if_pos hc1] at h
      refine q_ev_brT hc1 (a := 259) (b := 154) rfl ?_
      have h_z0 := Option.some.inj h
      subst h_z0
      exact hk (some (.int x2)) (w3) (w4) (w5)
    · rw [if_neg hc1] at h
      refine q_ev_brF hc1 (a := 259) (b := 154) rfl ?_
      refine q_ev_run 9 (S' := (167, [some (.ref 58), some (.int x1), some (.int x2), w3, w4, w5], [.int (((x2 / 8) * 8) + x1), .ref 66], qMM n m lm)) rfl ?_
      obtain ⟨hb2, h⟩ := q_cd h
      refine q_ev_chk (b := q_in (((x2 / 8) * 8) + x1) 64) hb2 (S' := (168, [some (.ref 58), some (.int x1), some (.int x2), w3, w4, w5], [.int (m 64 ((((x2 / 8) * 8) + x1)).toNatClampNeg)], qMM n m lm)) rfl ?_
      refine q_ev_run 10 (S' := (182, [some (.ref 58), some (.int x1), some (.int x2), some (.int (m 64 ((((x2 / 8) * 8) + x1)).toNatClampNeg)), w4, w5], [.int ((8 * x1) + (x2 - x2 / 8 * 8)), .ref 66], qMM n m lm)) rfl ?_
      obtain ⟨hb3, h⟩ := q_cd h
      refine q_ev_chk (b := q_in ((8 * x1) + (x2 - x2 / 8 * 8)) 64) hb3 (S' := (183, [some (.ref 58), some (.int x1), some (.int x2), some (.int (m 64 ((((x2 / 8) * 8) + x1)).toNatClampNeg)), w4, w5], [.int (m 64 (((8 * x1) + (x2 - x2 / 8 * 8))).toNatClampNeg)], qMM n m lm)) rfl ?_
      refine q_ev_run 3 (S' := (188, [some (.ref 58), some (.int x1), some (.int x2), some (.int (m 64 ((((x2 / 8) * 8) + x1)).toNatClampNeg)), some (.int (m 64 (((8 * x1) + (x2 - x2 / 8 * 8))).toNatClampNeg)), w5], [.int (Int32.ofInt (-9)), .int (m 64 ((((x2 / 8) * 8) + x1)).toNatClampNeg)], qMM n m lm)) rfl ?_
      by_cases hc4 : m 64 ((((x2 / 8) * 8) + x1)).toNatClampNeg = (Int32.ofInt (-9))
      · rw [if_pos hc4] at h
        refine q_ev_brT hc4 (a := 226) (b := 191) rfl ?_
        refine q_ev_run 10 (S' := (251, [some (.ref 58), some (.int x1), some (.int x2), some (.int (m 64 ((((x2 / 8) * 8) + x1)).toNatClampNeg)), some (.int (m 64 (((8 * x1) + (x2 - x2 / 8 * 8))).toNatClampNeg)), some (.int 0)], [.int x2, .ref 66, .int x2, .ref 66], qMM n m lm)) rfl ?_
        obtain ⟨hb5, h⟩ := q_cd h
        refine q_ev_chk (b := q_in x2 64) hb5 (S' := (252, [some (.ref 58), some (.int x1), some (.int x2), some (.int (m 64 ((((x2 / 8) * 8) + x1)).toNatClampNeg)), some (.int (m 64 (((8 * x1) + (x2 - x2 / 8 * 8))).toNatClampNeg)), some (.int 0)], [.int (m 64 x2.toNatClampNeg), .int x2, .ref 66], qMM n m lm)) rfl ?_
        obtain ⟨hb6, h⟩ := q_cd h
        refine q_ev_chk (b := q_in x2 64) hb6 (S' := (253, [some (.ref 58), some (.int x1), some (.int x2), some (.int (m 64 ((((x2 / 8) * 8) + x1)).toNatClampNeg)), some (.int (m 64 (((8 * x1) + (x2 - x2 / 8 * 8))).toNatClampNeg)), some (.int 0)], [], qMM n (q_w m 64 x2.toNatClampNeg (m 64 x2.toNatClampNeg)) lm)) rfl ?_
        refine q_ev_run 2 (S' := (148, [some (.ref 58), some (.int x1), some (.int (x2 + 1)), some (.int (m 64 ((((x2 / 8) * 8) + x1)).toNatClampNeg)), some (.int (m 64 (((8 * x1) + (x2 - x2 / 8 * 8))).toNatClampNeg)), some (.int 0)], [], qMM n (q_w m 64 x2.toNatClampNeg (m 64 x2.toNatClampNeg)) lm)) rfl ?_
        exact ih (q_w m 64 x2.toNatClampNeg (m 64 x2.toNatClampNeg)) x1 (x2 + 1) (some (.int (m 64 ((((x2 / 8) * 8) + x1)).toNatClampNeg))) (some (.int (m 64 (((8 * x1) + (x2 - x2 / 8 * 8))).toNatClampNeg))) (some (.int 0)) _ h hk
      · rw [if_neg hc4] at h
        refine q_ev_brF hc4 (a := 226) (b := 191) rfl ?_
        refine q_ev_run 2 (S' := (195, [some (.ref 58), some (.int x1), some (.int x2), some (.int (m 64 ((((x2 / 8) * 8) + x1)).toNatClampNeg)), some (.int (m 64 (((8 * x1) + (x2 - x2 / 8 * 8))).toNatClampNeg)), w5], [.int (Int32.ofInt (-9)), .int (m 64 (((8 * x1) + (x2 - x2 / 8 * 8))).toNatClampNeg)], qMM n m lm)) rfl ?_
        by_cases hc7 : m 64 (((8 * x1) + (x2 - x2 / 8 * 8))).toNatClampNeg = (Int32.ofInt (-9))
        · rw [if_pos hc7] at h
          refine q_ev_brT hc7 (a := 226) (b := 198) rfl ?_
          refine q_ev_run 10 (S' := (251, [some (.ref 58), some (.int x1), some (.int x2), some (.int (m 64 ((((x2 / 8) * 8) + x1)).toNatClampNeg)), some (.int (m 64 (((8 * x1) + (x2 - x2 / 8 * 8))).toNatClampNeg)), some (.int 0)], [.int x2, .ref 66, .int x2, .ref 66], qMM n m lm)) rfl ?_
          obtain ⟨hb8, h⟩ := q_cd h
          refine q_ev_chk (b := q_in x2 64) hb8 (S' := (252, [some (.ref 58), some (.int x1), some (.int x2), some (.int (m 64 ((((x2 / 8) * 8) + x1)).toNatClampNeg)), some (.int (m 64 (((8 * x1) + (x2 - x2 / 8 * 8))).toNatClampNeg)), some (.int 0)], [.int (m 64 x2.toNatClampNeg), .int x2, .ref 66], qMM n m lm)) rfl ?_
          obtain ⟨hb9, h⟩ := q_cd h
          refine q_ev_chk (b := q_in x2 64) hb9 (S' := (253, [some (.ref 58), some (.int x1), some (.int x2), some (.int (m 64 ((((x2 / 8) * 8) + x1)).toNatClampNeg)), some (.int (m 64 (((8 * x1) + (x2 - x2 / 8 * 8))).toNatClampNeg)), some (.int 0)], [], qMM n (q_w m 64 x2.toNatClampNeg (m 64 x2.toNatClampNeg)) lm)) rfl ?_
          refine q_ev_run 2 (S' := (148, [some (.ref 58), some (.int x1), some (.int (x2 + 1)), some (.int (m 64 ((((x2 / 8) * 8) + x1)).toNatClampNeg)), some (.int (m 64 (((8 * x1) + (x2 - x2 / 8 * 8))).toNatClampNeg)), some (.int 0)], [], qMM n (q_w m 64 x2.toNatClampNeg (m 64 x2.toNatClampNeg)) lm)) rfl ?_
          exact ih (q_w m 64 x2.toNatClampNeg (m 64 x2.toNatClampNeg)) x1 (x2 + 1) (some (.int (m 64 ((((x2 / 8) * 8) + x1)).toNatClampNeg))) (some (.int (m 64 (((8 * x1) + (x2 - x2 / 8 * 8))).toNatClampNeg))) (some (.int 0)) _ h hk
        · rw [if_neg hc7] at h
          refine q_ev_brF hc7 (a := 226) (b := 198) rfl ?_
          refine q_ev_run 3 (S' := (203, [some (.ref 58), some (.int x1), some (.int x2), some (.int (m 64 ((((x2 / 8) * 8) + x1)).toNatClampNeg)), some (.int (m 64 (((8 * x1) + (x2 - x2 / 8 * 8))).toNatClampNeg)), w5], [.int x2, .ref 66], qMM n m lm)) rfl ?_
          obtain ⟨hb10, h⟩ := q_cd h
          refine q_ev_chk (b := q_in x2 64) hb10 (S' := (204, [some (.ref 58), some (.int x1), some (.int x2), some (.int (m 64 ((((x2 / 8) * 8) + x1)).toNatClampNeg)), some (.int (m 64 (((8 * x1) + (x2 - x2 / 8 * 8))).toNatClampNeg)), w5], [.int (m 64 x2.toNatClampNeg)], qMM n m lm)) rfl ?_
          refine q_ev_run 1 (S' := (206, [some (.ref 58), some (.int x1), some (.int x2), some (.int (m 64 ((((x2 / 8) * 8) + x1)).toNatClampNeg)), some (.int (m 64 (((8 * x1) + (x2 - x2 / 8 * 8))).toNatClampNeg)), w5], [.int (Int32.ofInt (-9)), .int (m 64 x2.toNatClampNeg)], qMM n m lm)) rfl ?_
          by_cases hc11 : m 64 x2.toNatClampNeg = (Int32.ofInt (-9))
          · rw [if_pos hc11] at h
            refine q_ev_brT hc11 (a := 222) (b := 209) rfl ?_
            refine q_ev_run 12 (S' := (252, [some (.ref 58), some (.int x1), some (.int x2), some (.int (m 64 ((((x2 / 8) * 8) + x1)).toNatClampNeg)), some (.int (m 64 (((8 * x1) + (x2 - x2 / 8 * 8))).toNatClampNeg)), some (.int 1)], [.int (m 64 ((((x2 / 8) * 8) + x1)).toNatClampNeg + m 64 (((8 * x1) + (x2 - x2 / 8 * 8))).toNatClampNeg), .int x2, .ref 66], qMM n m lm)) rfl ?_
            obtain ⟨hb12, h⟩ := q_cd h
            refine q_ev_chk (b := q_in x2 64) hb12 (S' := (253, [some (.ref 58), some (.int x1), some (.int x2), some (.int (m 64 ((((x2 / 8) * 8) + x1)).toNatClampNeg)), some (.int (m 64 (((8 * x1) + (x2 - x2 / 8 * 8))).toNatClampNeg)), some (.int 1)], [], qMM n (q_w m 64 x2.toNatClampNeg (m 64 ((((x2 / 8) * 8) + x1)).toNatClampNeg + m 64 (((8 * x1) + (x2 - x2 / 8 * 8))).toNatClampNeg)) lm)) rfl ?_
            refine q_ev_run 2 (S' := (148, [some (.ref 58), some (.int x1), some (.int (x2 + 1)), some (.int (m 64 ((((x2 / 8) * 8) + x1)).toNatClampNeg)), some (.int (m 64 (((8 * x1) + (x2 - x2 / 8 * 8))).toNatClampNeg)), some (.int 1)], [], qMM n (q_w m 64 x2.toNatClampNeg (m 64 ((((x2 / 8) * 8) + x1)).toNatClampNeg + m 64 (((8 * x1) + (x2 - x2 / 8 * 8))).toNatClampNeg)) lm)) rfl ?_
            exact ih (q_w m 64 x2.toNatClampNeg (m 64 ((((x2 / 8) * 8) + x1)).toNatClampNeg + m 64 (((8 * x1) + (x2 - x2 / 8 * 8))).toNatClampNeg)) x1 (x2 + 1) (some (.int (m 64 ((((x2 / 8) * 8) + x1)).toNatClampNeg))) (some (.int (m 64 (((8 * x1) + (x2 - x2 / 8 * 8))).toNatClampNeg))) (some (.int 1)) _ h hk
          · rw [if_neg hc11] at h
            refine q_ev_brF hc11 (a := 222) (b := 209) rfl ?_
            refine q_ev_run 6 (S' := (218, [some (.ref 58), some (.int x1), some (.int x2), some (.int (m 64 ((((x2 / 8) * 8) + x1)).toNatClampNeg)), some (.int (m 64 (((8 * x1) + (x2 - x2 / 8 * 8))).toNatClampNeg)), w5], [.int x2, .ref 66, .int (m 64 ((((x2 / 8) * 8) + x1)).toNatClampNeg + m 64 (((8 * x1) + (x2 - x2 / 8 * 8))).toNatClampNeg)], qMM n m lm)) rfl ?_
            obtain ⟨hb13, h⟩ := q_cd h
            refine q_ev_chk (b := q_in x2 64) hb13 (S' := (219, [some (.ref 58), some (.int x1), some (.int x2), some (.int (m 64 ((((x2 / 8) * 8) + x1)).toNatClampNeg)), some (.int (m 64 (((8 * x1) + (x2 - x2 / 8 * 8))).toNatClampNeg)), w5], [.int (m 64 x2.toNatClampNeg), .int (m 64 ((((x2 / 8) * 8) + x1)).toNatClampNeg + m 64 (((8 * x1) + (x2 - x2 / 8 * 8))).toNatClampNeg)], qMM n m lm)) rfl ?_
            by_cases hc14 : m 64 x2.toNatClampNeg ≤ (m 64 ((((x2 / 8) * 8) + x1)).toNatClampNeg + m 64 (((8 * x1) + (x2 - x2 / 8 * 8))).toNatClampNeg)
            · rw [if_pos hc14] at h
              refine q_ev_brT hc14 (a := 226) (b := 222) rfl ?_
              refine q_ev_run 10 (S' := (251, [some (.ref 58), some (.int x1), some (.int x2), some (.int (m 64 ((((x2 / 8) * 8) + x1)).toNatClampNeg)), some (.int (m 64 (((8 * x1) + (x2 - x2 / 8 * 8))).toNatClampNeg)), some (.int 0)], [.int x2, .ref 66, .int x2, .ref 66], qMM n m lm)) rfl ?_
              obtain ⟨hb15, h⟩ := q_cd h
              refine q_ev_chk (b := q_in x2 64) hb15 (S' := (252, [some (.ref 58), some (.int x1), some (.int x2), some (.int (m 64 ((((x2 / 8) * 8) + x1)).toNatClampNeg)), some (.int (m 64 (((8 * x1) + (x2 - x2 / 8 * 8))).toNatClampNeg)), some (.int 0)], [.int (m 64 x2.toNatClampNeg), .int x2, .ref 66], qMM n m lm)) rfl ?_
              obtain ⟨hb16, h⟩ := q_cd h
              refine q_ev_chk (b := q_in x2 64) hb16 (S' := (253, [some (.ref 58), some (.int x1), some (.int x2), some (.int (m 64 ((((x2 / 8) * 8) + x1)).toNatClampNeg)), some (.int (m 64 (((8 * x1) + (x2 - x2 / 8 * 8))).toNatClampNeg)), some (.int 0)], [], qMM n (q_w m 64 x2.toNatClampNeg (m 64 x2.toNatClampNeg)) lm)) rfl ?_
              refine q_ev_run 2 (S' := (148, [some (.ref 58), some (.int x1), some (.int (x2 + 1)), some (.int (m 64 ((((x2 / 8) * 8) + x1)).toNatClampNeg)), some (.int (m 64 (((8 * x1) + (x2 - x2 / 8 * 8))).toNatClampNeg)), some (.int 0)], [], qMM n (q_w m 64 x2.toNatClampNeg (m 64 x2.toNatClampNeg)) lm)) rfl ?_
              exact ih (q_w m 64 x2.toNatClampNeg (m 64 x2.toNatClampNeg)) x1 (x2 + 1) (some (.int (m 64 ((((x2 / 8) * 8) + x1)).toNatClampNeg))) (some (.int (m 64 (((8 * x1) + (x2 - x2 / 8 * 8))).toNatClampNeg))) (some (.int 0)) _ h hk
            · rw [if_neg hc14] at h
              refine q_ev_brF hc14 (a := 226) (b := 222) rfl ?_
              refine q_ev_run 12 (S' := (252, [some (.ref 58), some (.int x1), some (.int x2), some (.int (m 64 ((((x2 / 8) * 8) + x1)).toNatClampNeg)), some (.int (m 64 (((8 * x1) + (x2 - x2 / 8 * 8))).toNatClampNeg)), some (.int 1)], [.int (m 64 ((((x2 / 8) * 8) + x1)).toNatClampNeg + m 64 (((8 * x1) + (x2 - x2 / 8 * 8))).toNatClampNeg), .int x2, .ref 66], qMM n m lm)) rfl ?_
              obtain ⟨hb17, h⟩ := q_cd h
              refine q_ev_chk (b := q_in x2 64) hb17 (S' := (253, [some (.ref 58), some (.int x1), some (.int x2), some (.int (m 64 ((((x2 / 8) * 8) + x1)).toNatClampNeg)), some (.int (m 64 (((8 * x1) + (x2 - x2 / 8 * 8))).toNatClampNeg)), some (.int 1)], [], qMM n (q_w m 64 x2.toNatClampNeg (m 64 ((((x2 / 8) * 8) + x1)).toNatClampNeg + m 64 (((8 * x1) + (x2 - x2 / 8 * 8))).toNatClampNeg)) lm)) rfl ?_
              refine q_ev_run 2 (S' := (148, [some (.ref 58), some (.int x1), some (.int (x2 + 1)), some (.int (m 64 ((((x2 / 8) * 8) + x1)).toNatClampNeg)), some (.int (m 64 (((8 * x1) + (x2 - x2 / 8 * 8))).toNatClampNeg)), some (.int 1)], [], qMM n (q_w m 64 x2.toNatClampNeg (m 64 ((((x2 / 8) * 8) + x1)).toNatClampNeg + m 64 (((8 * x1) + (x2 - x2 / 8 * 8))).toNatClampNeg)) lm)) rfl ?_
              exact ih (q_w m 64 x2.toNatClampNeg (m 64 ((((x2 / 8) * 8) + x1)).toNatClampNeg + m 64 (((8 * x1) + (x2 - x2 / 8 * 8))).toNatClampNeg)) x1 (x2 + 1) (some (.int (m 64 ((((x2 / 8) * 8) + x1)).toNatClampNeg))) (some (.int (m 64 (((8 * x1) + (x2 - x2 / 8 * 8))).toNatClampNeg))) (some (.int 1)) _ h hk
noncomputable def FL_Mo_tells_140 : Nat → (Nat → Nat → Int32) → Int32 → Option ((Nat → Nat → Int32))
  | 0, _, _ => none
  | fu + 1, m, x1 =>
    if 8 ≤ x1 then
      some (m)
    else
      Option.bind (FL_Mo_tells_148 qFU m x1 0) (fun m6 =>
        FL_Mo_tells_140 fu m6 (x1 + 1))
theorem TL_Mo_tells_140 {Ln : Nat} {xs : Nat → Int32} {n : (Nat → Nat → Int32)} {lm : Nat → Int64} {d : Nat} (hd : 0 ≤ d) {r : Option Value × qM} : ∀ (fu : Nat) (m : (Nat → Nat → Int32)) (x1 : Int32) (w2 : Option Value) (w3 : Option Value) (w4 : Option Value) (w5 : Option Value) (m1 : (Nat → Nat → Int32)), FL_Mo_tells_140 fu m x1 = some m1 → (∀ (u1 u2 u3 u4 u5 : Option Value), q_Ev (qXT Ln xs) d 125 (265, [some (.ref 58), u1, u2, u3, u4, u5], [], qMM n m1 lm) r) → q_Ev (qXT Ln xs) d 125 (140, [some (.ref 58), some (.int x1), w2, w3, w4, w5], [], qMM n m lm) r := by
  intro fu
  induction fu with
  | zero => intro m x1 w2 w3 w4 w5 m1 h hk; cases h
  | succ fu ih =>
    intro m x1 w2 w3 w4 w5 m1 h hk
    rw [FL_Mo_tells_140] at h
    refine q_ev_run 2 (S' := (143, [some (.ref 58), some (.int x1), w2, w3, w4, w5], [.int 8, .int x1], qMM n m lm)) rfl ?_
    by_cases hc1 : 8 ≤ x1
    · rw [if_pos hc1] at h
      refine q_ev_brT hc1 (a := 265) (b := 146) rfl ?_
      have h_z0 := Option.some.inj h
      subst h_z0
      exact hk (some (.int x1)) (w2) (w3) (w4) (w5)
    · rw [if_neg hc1] at h
      refine q_ev_brF hc1 (a := 265) (b := 146) rfl ?_
      refine q_ev_run 2 (S' := (148, [some (.ref 58), some (.int x1), some (.int 0), w3, w4, w5], [], qMM n m lm)) rfl ?_
      obtain ⟨m6, hl7, h⟩ := Option.bind_eq_some_iff.mp h
      try dsimp only at h
      refine TL_Mo_tells_148 (by first | omega | decide) _ m x1 0 (w3) (w4) (w5) _ hl7 (fun w2 w3 w4 w5 => ?_)
      refine q_ev_run 2 (S' := (140, [some (.ref 58), some (.int (x1 + 1)), w2, w3, w4, w5], [], qMM n m6 lm)) rfl ?_
      exact ih m6 (x1 + 1) (w2) (w3) (w4) (w5) _ h hk
noncomputable def F_Mo_tells (m : (Nat → Nat → Int32)) : Option ((Nat → Nat → Int32)) :=
  Option.bind (FL_Mo_tells_2 qFU m 0) (fun m6 =>
    Option.bind (FL_Mo_tells_28 qFU m6 0) (fun m13 =>
      Option.bind (FL_Mo_tells_79 qFU (q_w (q_w (q_w m13 56 7 0) 63 0 0) 63 1 0) 0) (fun m20 =>
        Option.bind (FL_Mo_tells_140 qFU m20 0) (fun m27 =>
          some (m27)))))
theorem T_Mo_tells {Ln : Nat} {xs : Nat → Int32} {n : (Nat → Nat → Int32)} {lm : Nat → Int64} {d : Nat} (hd : 0 ≤ d) {m : (Nat → Nat → Int32)} {m1 : (Nat → Nat → Int32)} (h : F_Mo_tells m = some m1) : q_Ev (qXT Ln xs) d 125 (0, [some (.ref 58), none, none, none, none, none], [], qMM n m lm) (none, qMM n m1 lm) := by
  unfold F_Mo_tells at h
  refine q_ev_run 2 (S' := (2, [some (.ref 58), some (.int 0), none, none, none, none], [], qMM n m lm)) rfl ?_
  obtain ⟨m6, hl7, h⟩ := Option.bind_eq_some_iff.mp h
  try dsimp only at h
  refine TL_Mo_tells_2 (by first | omega | decide) _ m 0 (none) (none) (none) (none) _ hl7 (fun w1 w2 w3 w4 w5 => ?_)
  refine q_ev_run 2 (S' := (28, [some (.ref 58), some (.int 0), w2, w3, w4, w5], [], qMM n m6 lm)) rfl ?_
  obtain ⟨m13, hl14, h⟩ := Option.bind_eq_some_iff.mp h
  try dsimp only at h
  refine TL_Mo_tells_28 (by first | omega | decide) _ m6 0 (w2) (w3) (w4) (w5) _ hl14 (fun w8 w9 w10 w11 w12 => ?_)
  refine q_ev_run 15 (S' := (79, [some (.ref 58), some (.int 0), w9, w10, w11, w12], [], qMM n (q_w (q_w (q_w m13 56 7 0) 63 0 0) 63 1 0) lm)) rfl ?_
  obtain ⟨m20, hl21, h⟩ := Option.bind_eq_some_iff.mp h
  try dsimp only at h
  refine TL_Mo_tells_79 (by first | omega | decide) _ (q_w (q_w (q_w m13 56 7 0) 63 0 0) 63 1 0) 0 (w9) (w10) (w11) (w12) _ hl21 (fun w15 w16 w17 w18 w19 => ?_)
  refine q_ev_run 2 (S' := (140, [some (.ref 58), some (.int 0), w16, w17, w18, w19], [], qMM n m20 lm)) rfl ?_
  obtain ⟨m27, hl28, h⟩ := Option.bind_eq_some_iff.mp h
  try dsimp only at h
  refine TL_Mo_tells_140 (by first | omega | decide) _ m20 0 (w16) (w17) (w18) (w19) _ hl28 (fun w22 w23 w24 w25 w26 => ?_)
  have h_z0 := Option.some.inj h
  subst h_z0
  exact q_ev_ret rfl rfl
noncomputable def F_Mo_furrows (m : (Nat → Nat → Int32)) : Option (Int32 × (Nat → Nat → Int32)) :=
  Option.bind (F_Mo_reads m) (fun (r1, m2) =>
    if r1 = 0 then
      some (((Int32.ofInt (-10)) - m2 56 13), m2)
    else
      Option.bind (F_Mo_tells m2) (fun m5 =>
        some (m5 58 6, (q_w m5 56 2 0))))
theorem T_Mo_furrows {Ln : Nat} {xs : Nat → Int32} {n : (Nat → Nat → Int32)} {lm : Nat → Int64} {d : Nat} (hd : 7 ≤ d) {m : (Nat → Nat → Int32)} {rv : Int32} {m1 : (Nat → Nat → Int32)} (h : F_Mo_furrows m = some (rv, m1)) : q_Ev (qXT Ln xs) d 126 (0, [some (.ref 58)], [], qMM n m lm) (some (.int rv), qMM n m1 lm) := by
  unfold F_Mo_furrows at h
  refine q_ev_run 1 (S' := (1, [some (.ref 58)], [.ref 58], qMM n m lm)) rfl ?_
  obtain ⟨⟨r1, m2⟩, hf3, h⟩ := Option.bind_eq_some_iff.mp h
  try dsimp only at h
  refine q_ev_call (S' := (4, [some (.ref 58)], [], qMM n m lm)) rfl (by omega) (T_Mo_reads (by first | omega | decide) hf3) ?_
  refine q_ev_eq (S' := (4, [some (.ref 58)], [.int r1], qMM n m2 lm)) rfl ?_
  by_cases hc4 : r1 = 0
  · rw [if_pos hc4] at h
    refine q_ev_brT hc4 (a := 7) (b := 15) rfl ?_
    refine q_ev_run 4 (S' := (14, [some (.ref 58)], [.int ((Int32.ofInt (-10)) - m2 56 13)], qMM n m2 lm)) rfl ?_
    have h_z0 := Option.some.inj h
    obtain ⟨h_0, h_z1⟩ := Prod.mk.inj h_z0
    subst h_0
    subst h_z1
    exact q_ev_ret rfl rfl
  · rw [if_neg hc4] at h
    refine q_ev_brF hc4 (a := 7) (b := 15) rfl ?_
    refine q_ev_run 1 (S' := (16, [some (.ref 58)], [.ref 58], qMM n m2 lm)) rfl ?_
    obtain ⟨m5, hf6, h⟩ := Option.bind_eq_some_iff.mp h
    try dsimp only at h
    refine q_ev_call (S' := (19, [some (.ref 58)], [], qMM n m2 lm)) rfl (by omega) (T_Mo_tells (by first | omega | decide) hf6) ?_
    refine q_ev_eq (S' := (19, [some (.ref 58)], [], qMM n m5 lm)) rfl ?_
    refine q_ev_run 7 (S' := (31, [some (.ref 58)], [.int (m5 58 6)], qMM n (q_w m5 56 2 0) lm)) rfl ?_
    have h_z0 := Option.some.inj h
    obtain ⟨h_0, h_z1⟩ := Prod.mk.inj h_z0
    subst h_0
    subst h_z1
    exact q_ev_ret rfl rfl
noncomputable def F_La_hasPlace_9 (m : (Nat → Nat → Int32)) (a1 : Int32) : Option (Int32) :=
  if a1 < 0 then
    some (0)
  else
    if m 9 0 ≤ a1 then
      some (0)
    else
      some (1)
theorem T_La_hasPlace_9 {Ln : Nat} {xs : Nat → Int32} {n : (Nat → Nat → Int32)} {lm : Nat → Int64} {d : Nat} (hd : 0 ≤ d) {m : (Nat → Nat → Int32)} {a1 : Int32} {rv : Int32} (h : F_La_hasPlace_9 m a1 = some rv) : q_Ev (qXT Ln xs) d 15 (0, [some (.ref 11), some (.int a1)], [], qMM m n lm) (some (.int rv), qMM m n lm) := by
  unfold F_La_hasPlace_9 at h
  refine q_ev_run 1 (S' := (1, [some (.ref 11), some (.int a1)], [.int a1], qMM m n lm)) rfl ?_
  by_cases hc1 : a1 < 0
  · rw [if_pos hc1] at h
    refine q_ev_brT hc1 (a := 16) (b := 4) rfl ?_
    refine q_ev_run 1 (S' := (17, [some (.ref 11), some (.int a1)], [.int 0], qMM m n lm)) rfl ?_
    have h_z0 := Option.some.inj h
    subst h_z0
    exact q_ev_ret rfl rfl
  · rw [if_neg hc1] at h
    refine q_ev_brF hc1 (a := 16) (b := 4) rfl ?_
    refine q_ev_run 3 (S' := (9, [some (.ref 11), some (.int a1)], [.int (m 9 0), .int a1], qMM m n lm)) rfl ?_
    by_cases hc2 : m 9 0 ≤ a1
    · rw [if_pos hc2] at h
      refine q_ev_brT hc2 (a := 16) (b := 12) rfl ?_
      refine q_ev_run 1 (S' := (17, [some (.ref 11), some (.int a1)], [.int 0], qMM m n lm)) rfl ?_
      have h_z0 := Option.some.inj h
      subst h_z0
      exact q_ev_ret rfl rfl
    · rw [if_neg hc2] at h
      refine q_ev_brF hc2 (a := 16) (b := 12) rfl ?_
      refine q_ev_run 2 (S' := (17, [some (.ref 11), some (.int a1)], [.int 1], qMM m n lm)) rfl ?_
      have h_z0 := Option.some.inj h
      subst h_z0
      exact q_ev_ret rfl rfl
noncomputable def F_AT_furrow (m : (Nat → Nat → Int32)) (a1 : Int32) (a2 : Int32) : Option (Int32) :=
  Option.bind (F_La_hasPlace_9 m a1) (fun r1 =>
    if r1 = 0 then
      some ((Int32.ofInt (-1)))
    else
      Option.bind (F_La_hasPlace_9 m a2) (fun r4 =>
        if r4 = 0 then
          some ((Int32.ofInt (-1)))
        else
          Option.bind (F_La_furrowBetween_9 m a1 a2) (fun r7 =>
            some (r7))))
theorem T_AT_furrow {Ln : Nat} {xs : Nat → Int32} {n : (Nat → Nat → Int32)} {lm : Nat → Int64} {d : Nat} (hd : 2 ≤ d) {m : (Nat → Nat → Int32)} {a1 : Int32} {a2 : Int32} {rv : Int32} (h : F_AT_furrow m a1 a2 = some rv) : q_Ev (qXT Ln xs) d 71 (0, [some (.ref 0), some (.int a1), some (.int a2)], [], qMM m n lm) (some (.int rv), qMM m n lm) := by
  unfold F_AT_furrow at h
  refine q_ev_run 3 (S' := (5, [some (.ref 0), some (.int a1), some (.int a2)], [.int a1, .ref 11], qMM m n lm)) rfl ?_
  obtain ⟨r1, hf2, h⟩ := Option.bind_eq_some_iff.mp h
  try dsimp only at h
  refine q_ev_call (S' := (8, [some (.ref 0), some (.int a1), some (.int a2)], [], qMM m n lm)) rfl (by omega) (T_La_hasPlace_9 (by first | omega | decide) hf2) ?_
  refine q_ev_eq (S' := (8, [some (.ref 0), some (.int a1), some (.int a2)], [.int r1], qMM m n lm)) rfl ?_
  by_cases hc3 : r1 = 0
  · rw [if_pos hc3] at h
    refine q_ev_brT hc3 (a := 22) (b := 11) rfl ?_
    refine q_ev_run 1 (S' := (23, [some (.ref 0), some (.int a1), some (.int a2)], [.int (Int32.ofInt (-1))], qMM m n lm)) rfl ?_
    have h_z0 := Option.some.inj h
    subst h_z0
    exact q_ev_ret rfl rfl
  · rw [if_neg hc3] at h
    refine q_ev_brF hc3 (a := 22) (b := 11) rfl ?_
    refine q_ev_run 3 (S' := (16, [some (.ref 0), some (.int a1), some (.int a2)], [.int a2, .ref 11], qMM m n lm)) rfl ?_
    obtain ⟨r4, hf5, h⟩ := Option.bind_eq_some_iff.mp h
    try dsimp only at h
    refine q_ev_call (S' := (19, [some (.ref 0), some (.int a1), some (.int a2)], [], qMM m n lm)) rfl (by omega) (T_La_hasPlace_9 (by first | omega | decide) hf5) ?_
    refine q_ev_eq (S' := (19, [some (.ref 0), some (.int a1), some (.int a2)], [.int r4], qMM m n lm)) rfl ?_
    by_cases hc6 : r4 = 0
    · rw [if_pos hc6] at h
      refine q_ev_brT hc6 (a := 22) (b := 24) rfl ?_
      refine q_ev_run 1 (S' := (23, [some (.ref 0), some (.int a1), some (.int a2)], [.int (Int32.ofInt (-1))], qMM m n lm)) rfl ?_
      have h_z0 := Option.some.inj h
      subst h_z0
      exact q_ev_ret rfl rfl
    · rw [if_neg hc6] at h
      refine q_ev_brF hc6 (a := 22) (b := 24) rfl ?_
      refine q_ev_run 4 (S' := (30, [some (.ref 0), some (.int a1), some (.int a2)], [.int a2, .int a1, .ref 11], qMM m n lm)) rfl ?_
      obtain ⟨r7, hf8, h⟩ := Option.bind_eq_some_iff.mp h
      try dsimp only at h
      refine q_ev_call (S' := (33, [some (.ref 0), some (.int a1), some (.int a2)], [], qMM m n lm)) rfl (by omega) (T_La_furrowBetween_9 (by first | omega | decide) hf8) ?_
      refine q_ev_eq (S' := (33, [some (.ref 0), some (.int a1), some (.int a2)], [.int r7], qMM m n lm)) rfl ?_
      have h_z0 := Option.some.inj h
      subst h_z0
      exact q_ev_ret rfl rfl
noncomputable def F_Mo_isPlace (m : (Nat → Nat → Int32)) (a1 : Int32) : Option (Int32) :=
  Option.bind (F_Mo_in a1 0 (m 58 0 - 1)) (fun r1 =>
    cond (q_bl r1) (some (r1)) none)
theorem T_Mo_isPlace {Ln : Nat} {xs : Nat → Int32} {n : (Nat → Nat → Int32)} {lm : Nat → Int64} {d : Nat} (hd : 1 ≤ d) {m : (Nat → Nat → Int32)} {a1 : Int32} {rv : Int32} (h : F_Mo_isPlace m a1 = some rv) : q_Ev (qXT Ln xs) d 106 (0, [some (.ref 58), some (.int a1)], [], qMM n m lm) (some (.int rv), qMM n m lm) := by
  unfold F_Mo_isPlace at h
  refine q_ev_run 8 (S' := (10, [some (.ref 58), some (.int a1)], [.int (m 58 0 - 1), .int 0, .int a1], qMM n m lm)) rfl ?_
  obtain ⟨r1, hf2, h⟩ := Option.bind_eq_some_iff.mp h
  try dsimp only at h
  refine q_ev_call (S' := (13, [some (.ref 58), some (.int a1)], [], qMM n m lm)) rfl (by omega) (T_Mo_in (by first | omega | decide) hf2) ?_
  refine q_ev_eq (S' := (13, [some (.ref 58), some (.int a1)], [.int r1], qMM n m lm)) rfl ?_
  obtain ⟨hb3, h⟩ := q_cd h
  have h_z0 := Option.some.inj h
  subst h_z0
  exact q_ev_retb hb3 rfl rfl
noncomputable def F_Mo_furrow (m : (Nat → Nat → Int32)) (a1 : Int32) (a2 : Int32) : Option (Int32) :=
  Option.bind (F_Mo_isPlace m a1) (fun r1 =>
    if r1 = 0 then
      some ((Int32.ofInt (-1)))
    else
      Option.bind (F_Mo_isPlace m a2) (fun r4 =>
        if r4 = 0 then
          some ((Int32.ofInt (-1)))
        else
          cond (q_in ((21 + (8 * a1)) + a2) 93) (some (m 58 (((21 + (8 * a1)) + a2)).toNatClampNeg)) none))
theorem T_Mo_furrow {Ln : Nat} {xs : Nat → Int32} {n : (Nat → Nat → Int32)} {lm : Nat → Int64} {d : Nat} (hd : 2 ≤ d) {m : (Nat → Nat → Int32)} {a1 : Int32} {a2 : Int32} {rv : Int32} (h : F_Mo_furrow m a1 a2 = some rv) : q_Ev (qXT Ln xs) d 127 (0, [some (.ref 58), some (.int a1), some (.int a2)], [], qMM n m lm) (some (.int rv), qMM n m lm) := by
  unfold F_Mo_furrow at h
  refine q_ev_run 2 (S' := (2, [some (.ref 58), some (.int a1), some (.int a2)], [.int a1, .ref 58], qMM n m lm)) rfl ?_
  obtain ⟨r1, hf2, h⟩ := Option.bind_eq_some_iff.mp h
  try dsimp only at h
  refine q_ev_call (S' := (5, [some (.ref 58), some (.int a1), some (.int a2)], [], qMM n m lm)) rfl (by omega) (T_Mo_isPlace (by first | omega | decide) hf2) ?_
  refine q_ev_eq (S' := (5, [some (.ref 58), some (.int a1), some (.int a2)], [.int r1], qMM n m lm)) rfl ?_
  by_cases hc3 : r1 = 0
  · rw [if_pos hc3] at h
    refine q_ev_brT hc3 (a := 33) (b := 8) rfl ?_
    refine q_ev_run 1 (S' := (34, [some (.ref 58), some (.int a1), some (.int a2)], [.int (Int32.ofInt (-1))], qMM n m lm)) rfl ?_
    have h_z0 := Option.some.inj h
    subst h_z0
    exact q_ev_ret rfl rfl
  · rw [if_neg hc3] at h
    refine q_ev_brF hc3 (a := 33) (b := 8) rfl ?_
    refine q_ev_run 2 (S' := (10, [some (.ref 58), some (.int a1), some (.int a2)], [.int a2, .ref 58], qMM n m lm)) rfl ?_
    obtain ⟨r4, hf5, h⟩ := Option.bind_eq_some_iff.mp h
    try dsimp only at h
    refine q_ev_call (S' := (13, [some (.ref 58), some (.int a1), some (.int a2)], [], qMM n m lm)) rfl (by omega) (T_Mo_isPlace (by first | omega | decide) hf5) ?_
    refine q_ev_eq (S' := (13, [some (.ref 58), some (.int a1), some (.int a2)], [.int r4], qMM n m lm)) rfl ?_
    by_cases hc6 : r4 = 0
    · rw [if_pos hc6] at h
      refine q_ev_brT hc6 (a := 33) (b := 16) rfl ?_
      refine q_ev_run 1 (S' := (34, [some (.ref 58), some (.int a1), some (.int a2)], [.int (Int32.ofInt (-1))], qMM n m lm)) rfl ?_
      have h_z0 := Option.some.inj h
      subst h_z0
      exact q_ev_ret rfl rfl
    · rw [if_neg hc6] at h
      refine q_ev_brF hc6 (a := 33) (b := 16) rfl ?_
      refine q_ev_run 9 (S' := (29, [some (.ref 58), some (.int a1), some (.int a2)], [.int ((21 + (8 * a1)) + a2), .ref 60], qMM n m lm)) rfl ?_
      obtain ⟨hb7, h⟩ := q_cd h
      refine q_ev_chk (b := q_in ((21 + (8 * a1)) + a2) 93) hb7 (S' := (30, [some (.ref 58), some (.int a1), some (.int a2)], [.int (m 58 (((21 + (8 * a1)) + a2)).toNatClampNeg)], qMM n m lm)) rfl ?_
      refine q_ev_run 1 (S' := (34, [some (.ref 58), some (.int a1), some (.int a2)], [.int (m 58 (((21 + (8 * a1)) + a2)).toNatClampNeg)], qMM n m lm)) rfl ?_
      have h_z0 := Option.some.inj h
      subst h_z0
      exact q_ev_ret rfl rfl
noncomputable def F_AT_way (m : (Nat → Nat → Int32)) (a1 : Int32) (a2 : Int32) : Option (Int32) :=
  Option.bind (F_La_hasPlace_9 m a1) (fun r1 =>
    if r1 = 0 then
      some ((Int32.ofInt (-1)))
    else
      Option.bind (F_La_hasPlace_9 m a2) (fun r4 =>
        if r4 = 0 then
          some ((Int32.ofInt (-1)))
        else
          Option.bind (F_La_wayBetween_9 m a1 a2) (fun r7 =>
            some (r7))))
theorem T_AT_way {Ln : Nat} {xs : Nat → Int32} {n : (Nat → Nat → Int32)} {lm : Nat → Int64} {d : Nat} (hd : 2 ≤ d) {m : (Nat → Nat → Int32)} {a1 : Int32} {a2 : Int32} {rv : Int32} (h : F_AT_way m a1 a2 = some rv) : q_Ev (qXT Ln xs) d 72 (0, [some (.ref 0), some (.int a1), some (.int a2)], [], qMM m n lm) (some (.int rv), qMM m n lm) := by
  unfold F_AT_way at h
  refine q_ev_run 3 (S' := (5, [some (.ref 0), some (.int a1), some (.int a2)], [.int a1, .ref 11], qMM m n lm)) rfl ?_
  obtain ⟨r1, hf2, h⟩ := Option.bind_eq_some_iff.mp h
  try dsimp only at h
  refine q_ev_call (S' := (8, [some (.ref 0), some (.int a1), some (.int a2)], [], qMM m n lm)) rfl (by omega) (T_La_hasPlace_9 (by first | omega | decide) hf2) ?_
  refine q_ev_eq (S' := (8, [some (.ref 0), some (.int a1), some (.int a2)], [.int r1], qMM m n lm)) rfl ?_
  by_cases hc3 : r1 = 0
  · rw [if_pos hc3] at h
    refine q_ev_brT hc3 (a := 22) (b := 11) rfl ?_
    refine q_ev_run 1 (S' := (23, [some (.ref 0), some (.int a1), some (.int a2)], [.int (Int32.ofInt (-1))], qMM m n lm)) rfl ?_
    have h_z0 := Option.some.inj h
    subst h_z0
    exact q_ev_ret rfl rfl
  · rw [if_neg hc3] at h
    refine q_ev_brF hc3 (a := 22) (b := 11) rfl ?_
    refine q_ev_run 3 (S' := (16, [some (.ref 0), some (.int a1), some (.int a2)], [.int a2, .ref 11], qMM m n lm)) rfl ?_
    obtain ⟨r4, hf5, h⟩ := Option.bind_eq_some_iff.mp h
    try dsimp only at h
    refine q_ev_call (S' := (19, [some (.ref 0), some (.int a1), some (.int a2)], [], qMM m n lm)) rfl (by omega) (T_La_hasPlace_9 (by first | omega | decide) hf5) ?_
    refine q_ev_eq (S' := (19, [some (.ref 0), some (.int a1), some (.int a2)], [.int r4], qMM m n lm)) rfl ?_
    by_cases hc6 : r4 = 0
    · rw [if_pos hc6] at h
      refine q_ev_brT hc6 (a := 22) (b := 24) rfl ?_
      refine q_ev_run 1 (S' := (23, [some (.ref 0), some (.int a1), some (.int a2)], [.int (Int32.ofInt (-1))], qMM m n lm)) rfl ?_
      have h_z0 := Option.some.inj h
      subst h_z0
      exact q_ev_ret rfl rfl
    · rw [if_neg hc6] at h
      refine q_ev_brF hc6 (a := 22) (b := 24) rfl ?_
      refine q_ev_run 4 (S' := (30, [some (.ref 0), some (.int a1), some (.int a2)], [.int a2, .int a1, .ref 11], qMM m n lm)) rfl ?_
      obtain ⟨r7, hf8, h⟩ := Option.bind_eq_some_iff.mp h
      try dsimp only at h
      refine q_ev_call (S' := (33, [some (.ref 0), some (.int a1), some (.int a2)], [], qMM m n lm)) rfl (by omega) (T_La_wayBetween_9 (by first | omega | decide) hf8) ?_
      refine q_ev_eq (S' := (33, [some (.ref 0), some (.int a1), some (.int a2)], [.int r7], qMM m n lm)) rfl ?_
      have h_z0 := Option.some.inj h
      subst h_z0
      exact q_ev_ret rfl rfl
noncomputable def F_Mo_wayOf (m : (Nat → Nat → Int32)) (a1 : Int32) (a2 : Int32) : Option (Int32) :=
  cond (q_in ((8 * a1) + a2) 64) (
    if m 64 (((8 * a1) + a2)).toNatClampNeg = (Int32.ofInt (-9)) then
      some ((Int32.ofInt (-9)))
    else
      some ((m 64 (((8 * a1) + a2)).toNatClampNeg * m 58 3))
   ) none
theorem T_Mo_wayOf {Ln : Nat} {xs : Nat → Int32} {n : (Nat → Nat → Int32)} {lm : Nat → Int64} {d : Nat} (hd : 0 ≤ d) {m : (Nat → Nat → Int32)} {a1 : Int32} {a2 : Int32} {rv : Int32} (h : F_Mo_wayOf m a1 a2 = some rv) : q_Ev (qXT Ln xs) d 128 (0, [some (.ref 58), some (.int a1), some (.int a2), none], [], qMM n m lm) (some (.int rv), qMM n m lm) := by
  unfold F_Mo_wayOf at h
  refine q_ev_run 7 (S' := (10, [some (.ref 58), some (.int a1), some (.int a2), none], [.int ((8 * a1) + a2), .ref 66], qMM n m lm)) rfl ?_
  obtain ⟨hb1, h⟩ := q_cd h
  refine q_ev_chk (b := q_in ((8 * a1) + a2) 64) hb1 (S' := (11, [some (.ref 58), some (.int a1), some (.int a2), none], [.int (m 64 (((8 * a1) + a2)).toNatClampNeg)], qMM n m lm)) rfl ?_
  refine q_ev_run 3 (S' := (15, [some (.ref 58), some (.int a1), some (.int a2), some (.int (m 64 (((8 * a1) + a2)).toNatClampNeg))], [.int (Int32.ofInt (-9)), .int (m 64 (((8 * a1) + a2)).toNatClampNeg)], qMM n m lm)) rfl ?_
  by_cases hc2 : m 64 (((8 * a1) + a2)).toNatClampNeg = (Int32.ofInt (-9))
  · rw [if_pos hc2] at h
    refine q_ev_brT hc2 (a := 18) (b := 23) rfl ?_
    refine q_ev_run 2 (S' := (31, [some (.ref 58), some (.int a1), some (.int a2), some (.int (m 64 (((8 * a1) + a2)).toNatClampNeg))], [.int (Int32.ofInt (-9))], qMM n m lm)) rfl ?_
    have h_z0 := Option.some.inj h
    subst h_z0
    exact q_ev_ret rfl rfl
  · rw [if_neg hc2] at h
    refine q_ev_brF hc2 (a := 18) (b := 23) rfl ?_
    refine q_ev_run 6 (S' := (31, [some (.ref 58), some (.int a1), some (.int a2), some (.int (m 64 (((8 * a1) + a2)).toNatClampNeg))], [.int (m 64 (((8 * a1) + a2)).toNatClampNeg * m 58 3)], qMM n m lm)) rfl ?_
    have h_z0 := Option.some.inj h
    subst h_z0
    exact q_ev_ret rfl rfl
noncomputable def F_Mo_way (m : (Nat → Nat → Int32)) (a1 : Int32) (a2 : Int32) : Option (Int32) :=
  Option.bind (F_Mo_isPlace m a1) (fun r1 =>
    if r1 = 0 then
      some ((Int32.ofInt (-1)))
    else
      Option.bind (F_Mo_isPlace m a2) (fun r4 =>
        if r4 = 0 then
          some ((Int32.ofInt (-1)))
        else
          Option.bind (F_Mo_wayOf m a1 a2) (fun r7 =>
            some (r7))))
theorem T_Mo_way {Ln : Nat} {xs : Nat → Int32} {n : (Nat → Nat → Int32)} {lm : Nat → Int64} {d : Nat} (hd : 2 ≤ d) {m : (Nat → Nat → Int32)} {a1 : Int32} {a2 : Int32} {rv : Int32} (h : F_Mo_way m a1 a2 = some rv) : q_Ev (qXT Ln xs) d 129 (0, [some (.ref 58), some (.int a1), some (.int a2)], [], qMM n m lm) (some (.int rv), qMM n m lm) := by
  unfold F_Mo_way at h
  refine q_ev_run 2 (S' := (2, [some (.ref 58), some (.int a1), some (.int a2)], [.int a1, .ref 58], qMM n m lm)) rfl ?_
  obtain ⟨r1, hf2, h⟩ := Option.bind_eq_some_iff.mp h
  try dsimp only at h
  refine q_ev_call (S' := (5, [some (.ref 58), some (.int a1), some (.int a2)], [], qMM n m lm)) rfl (by omega) (T_Mo_isPlace (by first | omega | decide) hf2) ?_
  refine q_ev_eq (S' := (5, [some (.ref 58), some (.int a1), some (.int a2)], [.int r1], qMM n m lm)) rfl ?_
  by_cases hc3 : r1 = 0
  · rw [if_pos hc3] at h
    refine q_ev_brT hc3 (a := 25) (b := 8) rfl ?_
    refine q_ev_run 1 (S' := (26, [some (.ref 58), some (.int a1), some (.int a2)], [.int (Int32.ofInt (-1))], qMM n m lm)) rfl ?_
    have h_z0 := Option.some.inj h
    subst h_z0
    exact q_ev_ret rfl rfl
  · rw [if_neg hc3] at h
    refine q_ev_brF hc3 (a := 25) (b := 8) rfl ?_
    refine q_ev_run 2 (S' := (10, [some (.ref 58), some (.int a1), some (.int a2)], [.int a2, .ref 58], qMM n m lm)) rfl ?_
    obtain ⟨r4, hf5, h⟩ := Option.bind_eq_some_iff.mp h
    try dsimp only at h
    refine q_ev_call (S' := (13, [some (.ref 58), some (.int a1), some (.int a2)], [], qMM n m lm)) rfl (by omega) (T_Mo_isPlace (by first | omega | decide) hf5) ?_
    refine q_ev_eq (S' := (13, [some (.ref 58), some (.int a1), some (.int a2)], [.int r4], qMM n m lm)) rfl ?_
    by_cases hc6 : r4 = 0
    · rw [if_pos hc6] at h
      refine q_ev_brT hc6 (a := 25) (b := 16) rfl ?_
      refine q_ev_run 1 (S' := (26, [some (.ref 58), some (.int a1), some (.int a2)], [.int (Int32.ofInt (-1))], qMM n m lm)) rfl ?_
      have h_z0 := Option.some.inj h
      subst h_z0
      exact q_ev_ret rfl rfl
    · rw [if_neg hc6] at h
      refine q_ev_brF hc6 (a := 25) (b := 16) rfl ?_
      refine q_ev_run 3 (S' := (19, [some (.ref 58), some (.int a1), some (.int a2)], [.int a2, .int a1, .ref 58], qMM n m lm)) rfl ?_
      obtain ⟨r7, hf8, h⟩ := Option.bind_eq_some_iff.mp h
      try dsimp only at h
      refine q_ev_call (S' := (22, [some (.ref 58), some (.int a1), some (.int a2)], [], qMM n m lm)) rfl (by omega) (T_Mo_wayOf (by first | omega | decide) hf8) ?_
      refine q_ev_eq (S' := (22, [some (.ref 58), some (.int a1), some (.int a2)], [.int r7], qMM n m lm)) rfl ?_
      refine q_ev_run 1 (S' := (26, [some (.ref 58), some (.int a1), some (.int a2)], [.int r7], qMM n m lm)) rfl ?_
      have h_z0 := Option.some.inj h
      subst h_z0
      exact q_ev_ret rfl rfl
noncomputable def F_AT_sights (m : (Nat → Nat → Int32)) (a1 : Int32) : Option (Int32) :=
  Option.bind (F_La_hasPlace_9 m a1) (fun r1 =>
    if r1 = 0 then
      some ((Int32.ofInt (-1)))
    else
      cond (q_in a1 8) (some (m 12 a1.toNatClampNeg)) none)
theorem T_AT_sights {Ln : Nat} {xs : Nat → Int32} {n : (Nat → Nat → Int32)} {lm : Nat → Int64} {d : Nat} (hd : 1 ≤ d) {m : (Nat → Nat → Int32)} {a1 : Int32} {rv : Int32} (h : F_AT_sights m a1 = some rv) : q_Ev (qXT Ln xs) d 73 (0, [some (.ref 0), some (.int a1)], [], qMM m n lm) (some (.int rv), qMM m n lm) := by
  unfold F_AT_sights at h
  refine q_ev_run 3 (S' := (5, [some (.ref 0), some (.int a1)], [.int a1, .ref 11], qMM m n lm)) rfl ?_
  obtain ⟨r1, hf2, h⟩ := Option.bind_eq_some_iff.mp h
  try dsimp only at h
  refine q_ev_call (S' := (8, [some (.ref 0), some (.int a1)], [], qMM m n lm)) rfl (by omega) (T_La_hasPlace_9 (by first | omega | decide) hf2) ?_
  refine q_ev_eq (S' := (8, [some (.ref 0), some (.int a1)], [.int r1], qMM m n lm)) rfl ?_
  by_cases hc3 : r1 = 0
  · rw [if_pos hc3] at h
    refine q_ev_brT hc3 (a := 11) (b := 13) rfl ?_
    refine q_ev_run 1 (S' := (12, [some (.ref 0), some (.int a1)], [.int (Int32.ofInt (-1))], qMM m n lm)) rfl ?_
    have h_z0 := Option.some.inj h
    subst h_z0
    exact q_ev_ret rfl rfl
  · rw [if_neg hc3] at h
    refine q_ev_brF hc3 (a := 11) (b := 13) rfl ?_
    refine q_ev_run 4 (S' := (21, [some (.ref 0), some (.int a1)], [.int a1, .ref 14], qMM m n lm)) rfl ?_
    obtain ⟨hb4, h⟩ := q_cd h
    refine q_ev_chk (b := q_in a1 8) hb4 (S' := (22, [some (.ref 0), some (.int a1)], [.int (m 12 a1.toNatClampNeg)], qMM m n lm)) rfl ?_
    have h_z0 := Option.some.inj h
    subst h_z0
    exact q_ev_ret rfl rfl
noncomputable def F_Mo_sights (m : (Nat → Nat → Int32)) (a1 : Int32) : Option (Int32) :=
  Option.bind (F_Mo_isPlace m a1) (fun r1 =>
    if r1 = 0 then
      some ((Int32.ofInt (-1)))
    else
      cond (q_in (85 + a1) 93) (some (m 58 ((85 + a1)).toNatClampNeg)) none)
theorem T_Mo_sights {Ln : Nat} {xs : Nat → Int32} {n : (Nat → Nat → Int32)} {lm : Nat → Int64} {d : Nat} (hd : 2 ≤ d) {m : (Nat → Nat → Int32)} {a1 : Int32} {rv : Int32} (h : F_Mo_sights m a1 = some rv) : q_Ev (qXT Ln xs) d 130 (0, [some (.ref 58), some (.int a1)], [], qMM n m lm) (some (.int rv), qMM n m lm) := by
  unfold F_Mo_sights at h
  refine q_ev_run 2 (S' := (2, [some (.ref 58), some (.int a1)], [.int a1, .ref 58], qMM n m lm)) rfl ?_
  obtain ⟨r1, hf2, h⟩ := Option.bind_eq_some_iff.mp h
  try dsimp only at h
  refine q_ev_call (S' := (5, [some (.ref 58), some (.int a1)], [], qMM n m lm)) rfl (by omega) (T_Mo_isPlace (by first | omega | decide) hf2) ?_
  refine q_ev_eq (S' := (5, [some (.ref 58), some (.int a1)], [.int r1], qMM n m lm)) rfl ?_
  by_cases hc3 : r1 = 0
  · rw [if_pos hc3] at h
    refine q_ev_brT hc3 (a := 20) (b := 8) rfl ?_
    refine q_ev_run 1 (S' := (21, [some (.ref 58), some (.int a1)], [.int (Int32.ofInt (-1))], qMM n m lm)) rfl ?_
    have h_z0 := Option.some.inj h
    subst h_z0
    exact q_ev_ret rfl rfl
  · rw [if_neg hc3] at h
    refine q_ev_brF hc3 (a := 20) (b := 8) rfl ?_
    refine q_ev_run 5 (S' := (16, [some (.ref 58), some (.int a1)], [.int (85 + a1), .ref 60], qMM n m lm)) rfl ?_
    obtain ⟨hb4, h⟩ := q_cd h
    refine q_ev_chk (b := q_in (85 + a1) 93) hb4 (S' := (17, [some (.ref 58), some (.int a1)], [.int (m 58 ((85 + a1)).toNatClampNeg)], qMM n m lm)) rfl ?_
    refine q_ev_run 1 (S' := (21, [some (.ref 58), some (.int a1)], [.int (m 58 ((85 + a1)).toNatClampNeg)], qMM n m lm)) rfl ?_
    have h_z0 := Option.some.inj h
    subst h_z0
    exact q_ev_ret rfl rfl
noncomputable def F_La_hasHedgehog_9 (m : (Nat → Nat → Int32)) (a1 : Int32) : Option (Int32) :=
  if a1 < 0 then
    some (0)
  else
    if m 9 1 ≤ a1 then
      some (0)
    else
      some (1)
theorem T_La_hasHedgehog_9 {Ln : Nat} {xs : Nat → Int32} {n : (Nat → Nat → Int32)} {lm : Nat → Int64} {d : Nat} (hd : 0 ≤ d) {m : (Nat → Nat → Int32)} {a1 : Int32} {rv : Int32} (h : F_La_hasHedgehog_9 m a1 = some rv) : q_Ev (qXT Ln xs) d 16 (0, [some (.ref 11), some (.int a1)], [], qMM m n lm) (some (.int rv), qMM m n lm) := by
  unfold F_La_hasHedgehog_9 at h
  refine q_ev_run 1 (S' := (1, [some (.ref 11), some (.int a1)], [.int a1], qMM m n lm)) rfl ?_
  by_cases hc1 : a1 < 0
  · rw [if_pos hc1] at h
    refine q_ev_brT hc1 (a := 16) (b := 4) rfl ?_
    refine q_ev_run 1 (S' := (17, [some (.ref 11), some (.int a1)], [.int 0], qMM m n lm)) rfl ?_
    have h_z0 := Option.some.inj h
    subst h_z0
    exact q_ev_ret rfl rfl
  · rw [if_neg hc1] at h
    refine q_ev_brF hc1 (a := 16) (b := 4) rfl ?_
    refine q_ev_run 3 (S' := (9, [some (.ref 11), some (.int a1)], [.int (m 9 1), .int a1], qMM m n lm)) rfl ?_
    by_cases hc2 : m 9 1 ≤ a1
    · rw [if_pos hc2] at h
      refine q_ev_brT hc2 (a := 16) (b := 12) rfl ?_
      refine q_ev_run 1 (S' := (17, [some (.ref 11), some (.int a1)], [.int 0], qMM m n lm)) rfl ?_
      have h_z0 := Option.some.inj h
      subst h_z0
      exact q_ev_ret rfl rfl
    · rw [if_neg hc2] at h
      refine q_ev_brF hc2 (a := 16) (b := 12) rfl ?_
      refine q_ev_run 2 (S' := (17, [some (.ref 11), some (.int a1)], [.int 1], qMM m n lm)) rfl ?_
      have h_z0 := Option.some.inj h
      subst h_z0
      exact q_ev_ret rfl rfl
noncomputable def F_AT_hedgehog (m : (Nat → Nat → Int32)) (a1 : Int32) : Option (Int32) :=
  Option.bind (F_La_hasHedgehog_9 m a1) (fun r1 =>
    if r1 = 0 then
      some ((Int32.ofInt (-1)))
    else
      cond (q_in a1 5) (some (m 13 a1.toNatClampNeg)) none)
theorem T_AT_hedgehog {Ln : Nat} {xs : Nat → Int32} {n : (Nat → Nat → Int32)} {lm : Nat → Int64} {d : Nat} (hd : 1 ≤ d) {m : (Nat → Nat → Int32)} {a1 : Int32} {rv : Int32} (h : F_AT_hedgehog m a1 = some rv) : q_Ev (qXT Ln xs) d 74 (0, [some (.ref 0), some (.int a1)], [], qMM m n lm) (some (.int rv), qMM m n lm) := by
  unfold F_AT_hedgehog at h
  refine q_ev_run 3 (S' := (5, [some (.ref 0), some (.int a1)], [.int a1, .ref 11], qMM m n lm)) rfl ?_
  obtain ⟨r1, hf2, h⟩ := Option.bind_eq_some_iff.mp h
  try dsimp only at h
  refine q_ev_call (S' := (8, [some (.ref 0), some (.int a1)], [], qMM m n lm)) rfl (by omega) (T_La_hasHedgehog_9 (by first | omega | decide) hf2) ?_
  refine q_ev_eq (S' := (8, [some (.ref 0), some (.int a1)], [.int r1], qMM m n lm)) rfl ?_
  by_cases hc3 : r1 = 0
  · rw [if_pos hc3] at h
    refine q_ev_brT hc3 (a := 11) (b := 13) rfl ?_
    refine q_ev_run 1 (S' := (12, [some (.ref 0), some (.int a1)], [.int (Int32.ofInt (-1))], qMM m n lm)) rfl ?_
    have h_z0 := Option.some.inj h
    subst h_z0
    exact q_ev_ret rfl rfl
  · rw [if_neg hc3] at h
    refine q_ev_brF hc3 (a := 11) (b := 13) rfl ?_
    refine q_ev_run 4 (S' := (21, [some (.ref 0), some (.int a1)], [.int a1, .ref 15], qMM m n lm)) rfl ?_
    obtain ⟨hb4, h⟩ := q_cd h
    refine q_ev_chk (b := q_in a1 5) hb4 (S' := (22, [some (.ref 0), some (.int a1)], [.int (m 13 a1.toNatClampNeg)], qMM m n lm)) rfl ?_
    have h_z0 := Option.some.inj h
    subst h_z0
    exact q_ev_ret rfl rfl
noncomputable def F_Mo_isHog (m : (Nat → Nat → Int32)) (a1 : Int32) : Option (Int32) :=
  Option.bind (F_Mo_in a1 0 (m 58 1 - 1)) (fun r1 =>
    cond (q_bl r1) (some (r1)) none)
theorem T_Mo_isHog {Ln : Nat} {xs : Nat → Int32} {n : (Nat → Nat → Int32)} {lm : Nat → Int64} {d : Nat} (hd : 1 ≤ d) {m : (Nat → Nat → Int32)} {a1 : Int32} {rv : Int32} (h : F_Mo_isHog m a1 = some rv) : q_Ev (qXT Ln xs) d 107 (0, [some (.ref 58), some (.int a1)], [], qMM n m lm) (some (.int rv), qMM n m lm) := by
  unfold F_Mo_isHog at h
  refine q_ev_run 8 (S' := (10, [some (.ref 58), some (.int a1)], [.int (m 58 1 - 1), .int 0, .int a1], qMM n m lm)) rfl ?_
  obtain ⟨r1, hf2, h⟩ := Option.bind_eq_some_iff.mp h
  try dsimp only at h
  refine q_ev_call (S' := (13, [some (.ref 58), some (.int a1)], [], qMM n m lm)) rfl (by omega) (T_Mo_in (by first | omega | decide) hf2) ?_
  refine q_ev_eq (S' := (13, [some (.ref 58), some (.int a1)], [.int r1], qMM n m lm)) rfl ?_
  obtain ⟨hb3, h⟩ := q_cd h
  have h_z0 := Option.some.inj h
  subst h_z0
  exact q_ev_retb hb3 rfl rfl
noncomputable def F_Mo_hedgehog (m : (Nat → Nat → Int32)) (a1 : Int32) : Option (Int32) :=
  Option.bind (F_Mo_isHog m a1) (fun r1 =>
    if r1 = 0 then
      some ((Int32.ofInt (-1)))
    else
      cond (q_in (8 + a1) 93) (some (m 58 ((8 + a1)).toNatClampNeg)) none)
theorem T_Mo_hedgehog {Ln : Nat} {xs : Nat → Int32} {n : (Nat → Nat → Int32)} {lm : Nat → Int64} {d : Nat} (hd : 2 ≤ d) {m : (Nat → Nat → Int32)} {a1 : Int32} {rv : Int32} (h : F_Mo_hedgehog m a1 = some rv) : q_Ev (qXT Ln xs) d 131 (0, [some (.ref 58), some (.int a1)], [], qMM n m lm) (some (.int rv), qMM n m lm) := by
  unfold F_Mo_hedgehog at h
  refine q_ev_run 2 (S' := (2, [some (.ref 58), some (.int a1)], [.int a1, .ref 58], qMM n m lm)) rfl ?_
  obtain ⟨r1, hf2, h⟩ := Option.bind_eq_some_iff.mp h
  try dsimp only at h
  refine q_ev_call (S' := (5, [some (.ref 58), some (.int a1)], [], qMM n m lm)) rfl (by omega) (T_Mo_isHog (by first | omega | decide) hf2) ?_
  refine q_ev_eq (S' := (5, [some (.ref 58), some (.int a1)], [.int r1], qMM n m lm)) rfl ?_
  by_cases hc3 : r1 = 0
  · rw [if_pos hc3] at h
    refine q_ev_brT hc3 (a := 20) (b := 8) rfl ?_
    refine q_ev_run 1 (S' := (21, [some (.ref 58), some (.int a1)], [.int (Int32.ofInt (-1))], qMM n m lm)) rfl ?_
    have h_z0 := Option.some.inj h
    subst h_z0
    exact q_ev_ret rfl rfl
  · rw [if_neg hc3] at h
    refine q_ev_brF hc3 (a := 20) (b := 8) rfl ?_
    refine q_ev_run 5 (S' := (16, [some (.ref 58), some (.int a1)], [.int (8 + a1), .ref 60], qMM n m lm)) rfl ?_
    obtain ⟨hb4, h⟩ := q_cd h
    refine q_ev_chk (b := q_in (8 + a1) 93) hb4 (S' := (17, [some (.ref 58), some (.int a1)], [.int (m 58 ((8 + a1)).toNatClampNeg)], qMM n m lm)) rfl ?_
    refine q_ev_run 1 (S' := (21, [some (.ref 58), some (.int a1)], [.int (m 58 ((8 + a1)).toNatClampNeg)], qMM n m lm)) rfl ?_
    have h_z0 := Option.some.inj h
    subst h_z0
    exact q_ev_ret rfl rfl
noncomputable def F_Ru_hasPoint_39 (m : (Nat → Nat → Int32)) (a1 : Int32) : Option (Int32) :=
  if a1 < 0 then
    some (0)
  else
    if m 39 0 ≤ a1 then
      some (0)
    else
      some (1)
theorem T_Ru_hasPoint_39 {Ln : Nat} {xs : Nat → Int32} {n : (Nat → Nat → Int32)} {lm : Nat → Int64} {d : Nat} (hd : 0 ≤ d) {m : (Nat → Nat → Int32)} {a1 : Int32} {rv : Int32} (h : F_Ru_hasPoint_39 m a1 = some rv) : q_Ev (qXT Ln xs) d 54 (0, [some (.ref 41), some (.int a1)], [], qMM m n lm) (some (.int rv), qMM m n lm) := by
  unfold F_Ru_hasPoint_39 at h
  refine q_ev_run 1 (S' := (1, [some (.ref 41), some (.int a1)], [.int a1], qMM m n lm)) rfl ?_
  by_cases hc1 : a1 < 0
  · rw [if_pos hc1] at h
    refine q_ev_brT hc1 (a := 16) (b := 4) rfl ?_
    refine q_ev_run 1 (S' := (17, [some (.ref 41), some (.int a1)], [.int 0], qMM m n lm)) rfl ?_
    have h_z0 := Option.some.inj h
    subst h_z0
    exact q_ev_ret rfl rfl
  · rw [if_neg hc1] at h
    refine q_ev_brF hc1 (a := 16) (b := 4) rfl ?_
    refine q_ev_run 3 (S' := (9, [some (.ref 41), some (.int a1)], [.int (m 39 0), .int a1], qMM m n lm)) rfl ?_
    by_cases hc2 : m 39 0 ≤ a1
    · rw [if_pos hc2] at h
      refine q_ev_brT hc2 (a := 16) (b := 12) rfl ?_
      refine q_ev_run 1 (S' := (17, [some (.ref 41), some (.int a1)], [.int 0], qMM m n lm)) rfl ?_
      have h_z0 := Option.some.inj h
      subst h_z0
      exact q_ev_ret rfl rfl
    · rw [if_neg hc2] at h
      refine q_ev_brF hc2 (a := 16) (b := 12) rfl ?_
      refine q_ev_run 2 (S' := (17, [some (.ref 41), some (.int a1)], [.int 1], qMM m n lm)) rfl ?_
      have h_z0 := Option.some.inj h
      subst h_z0
      exact q_ev_ret rfl rfl
noncomputable def FL_No_sittersAt_15_5 : Nat → (Nat → Nat → Int32) → Int32 → Int32 → Int32 → Int32 → Option (Int32)
  | 0, _, _, _, _, _ => none
  | fu + 1, m, x1, x2, x3, x4 =>
    if m 15 1 ≤ x4 then
      some (x3)
    else
      cond (q_in x4 12) (
        if ((x1 >>> (m 17 x4.toNatClampNeg &&& 31)) &&& 1) = 0 then
          FL_No_sittersAt_15_5 fu m x1 x2 x3 (x4 + 1)
        else
          cond (q_in x4 12) (
            if x2 < m 18 x4.toNatClampNeg then
              FL_No_sittersAt_15_5 fu m x1 x2 x3 (x4 + 1)
            else
              cond (q_in x4 12) (
                if m 19 x4.toNatClampNeg < x2 then
                  FL_No_sittersAt_15_5 fu m x1 x2 x3 (x4 + 1)
                else
                  cond (q_in x4 12) (FL_No_sittersAt_15_5 fu m x1 x2 (x3 ||| ((1 : Int32) <<< (m 16 x4.toNatClampNeg &&& 31))) (x4 + 1)) none
               ) none
           ) none
       ) none
theorem TL_No_sittersAt_15_5 {Ln : Nat} {xs : Nat → Int32} {n : (Nat → Nat → Int32)} {lm : Nat → Int64} {d : Nat} (hd : 0 ≤ d) {r : Option Value × qM} : ∀ (fu : Nat) (m : (Nat → Nat → Int32)) (x1 : Int32) (x2 : Int32) (x3 : Int32) (x4 : Int32) (w5 : Option Value) (y3 : Int32), FL_No_sittersAt_15_5 fu m x1 x2 x3 x4 = some y3 → (∀ (u4 u5 : Option Value), q_Ev (qXT Ln xs) d 32 (80, [some (.ref 17), some (.int x1), some (.int x2), some (.int y3), u4, u5], [], qMM m n lm) r) → q_Ev (qXT Ln xs) d 32 (5, [some (.ref 17), some (.int x1), some (.int x2), some (.int x3), some (.int x4), w5], [], qMM m n lm) r := by
  intro fu
  induction fu with
  | zero => intro m x1 x2 x3 x4 w5 y3 h hk; cases h
  | succ fu ih =>
    intro m x1 x2 x3 x4 w5 y3 h hk
    rw [FL_No_sittersAt_15_5] at h
    refine q_ev_run 3 (S' := (11, [some (.ref 17), some (.int x1), some (.int x2), some (.int x3), some (.int x4), w5], [.int (m 15 1), .int x4], qMM m n lm)) rfl ?_
    by_cases hc1 : m 15 1 ≤ x4
    · rw [if_pos hc1] at h
      refine q_ev_brT hc1 (a := 80) (b := 14) rfl ?_
      have h_z0 := Option.some.inj h
      subst h_z0
      exact hk (some (.int x4)) (w5)
    · rw [if_neg hc1] at h
      refine q_ev_brF hc1 (a := 80) (b := 14) rfl ?_
      refine q_ev_run 4 (S' := (21, [some (.ref 17), some (.int x1), some (.int x2), some (.int x3), some (.int x4), w5], [.int x4, .ref 19, .int x1], qMM m n lm)) rfl ?_
      obtain ⟨hb2, h⟩ := q_cd h
      refine q_ev_chk (b := q_in x4 12) hb2 (S' := (22, [some (.ref 17), some (.int x1), some (.int x2), some (.int x3), some (.int x4), w5], [.int (m 17 x4.toNatClampNeg), .int x1], qMM m n lm)) rfl ?_
      refine q_ev_run 3 (S' := (25, [some (.ref 17), some (.int x1), some (.int x2), some (.int x3), some (.int x4), w5], [.int ((x1 >>> (m 17 x4.toNatClampNeg &&& 31)) &&& 1)], qMM m n lm)) rfl ?_
      by_cases hc3 : ((x1 >>> (m 17 x4.toNatClampNeg &&& 31)) &&& 1) = 0
      · rw [if_pos hc3] at h
        refine q_ev_brT hc3 (a := 32) (b := 28) rfl ?_
        refine q_ev_run 6 (S' := (5, [some (.ref 17), some (.int x1), some (.int x2), some (.int x3), some (.int (x4 + 1)), some (.int 0)], [], qMM m n lm)) rfl ?_
        exact ih m x1 x2 x3 (x4 + 1) (some (.int 0)) _ h hk
      · rw [if_neg hc3] at h
        refine q_ev_brF hc3 (a := 32) (b := 28) rfl ?_
        refine q_ev_run 8 (S' := (46, [some (.ref 17), some (.int x1), some (.int x2), some (.int x3), some (.int x4), some (.int 1)], [.int x4, .ref 20], qMM m n lm)) rfl ?_
        obtain ⟨hb4, h⟩ := q_cd h
        refine q_ev_chk (b := q_in x4 12) hb4 (S' := (47, [some (.ref 17), some (.int x1), some (.int x2), some (.int x3), some (.int x4), some (.int 1)], [.int (m 18 x4.toNatClampNeg)], qMM m n lm)) rfl ?_
        refine q_ev_run 1 (S' := (48, [some (.ref 17), some (.int x1), some (.int x2), some (.int x3), some (.int x4), some (.int 1)], [.int x2, .int (m 18 x4.toNatClampNeg)], qMM m n lm)) rfl ?_
        by_cases hc5 : x2 < m 18 x4.toNatClampNeg
        · rw [if_pos hc5] at h
          refine q_ev_brT hc5 (a := 74) (b := 51) rfl ?_
          refine q_ev_run 2 (S' := (5, [some (.ref 17), some (.int x1), some (.int x2), some (.int x3), some (.int (x4 + 1)), some (.int 1)], [], qMM m n lm)) rfl ?_
          exact ih m x1 x2 x3 (x4 + 1) (some (.int 1)) _ h hk
        · rw [if_neg hc5] at h
          refine q_ev_brF hc5 (a := 74) (b := 51) rfl ?_
          refine q_ev_run 4 (S' := (58, [some (.ref 17), some (.int x1), some (.int x2), some (.int x3), some (.int x4), some (.int 1)], [.int x4, .ref 21, .int x2], qMM m n lm)) rfl ?_
          obtain ⟨hb6, h⟩ := q_cd h
          refine q_ev_chk (b := q_in x4 12) hb6 (S' := (59, [some (.ref 17), some (.int x1), some (.int x2), some (.int x3), some (.int x4), some (.int 1)], [.int (m 19 x4.toNatClampNeg), .int x2], qMM m n lm)) rfl ?_
          by_cases hc7 : m 19 x4.toNatClampNeg < x2
          · rw [if_pos hc7] at h
            refine q_ev_brT hc7 (a := 74) (b := 62) rfl ?_
            refine q_ev_run 2 (S' := (5, [some (.ref 17), some (.int x1), some (.int x2), some (.int x3), some (.int (x4 + 1)), some (.int 1)], [], qMM m n lm)) rfl ?_
            exact ih m x1 x2 x3 (x4 + 1) (some (.int 1)) _ h hk
          · rw [if_neg hc7] at h
            refine q_ev_brF hc7 (a := 74) (b := 62) rfl ?_
            refine q_ev_run 5 (S' := (70, [some (.ref 17), some (.int x1), some (.int x2), some (.int x3), some (.int x4), some (.int 1)], [.int x4, .ref 18, .int 1, .int x3], qMM m n lm)) rfl ?_
            obtain ⟨hb8, h⟩ := q_cd h
            refine q_ev_chk (b := q_in x4 12) hb8 (S' := (71, [some (.ref 17), some (.int x1), some (.int x2), some (.int x3), some (.int x4), some (.int 1)], [.int (m 16 x4.toNatClampNeg), .int 1, .int x3], qMM m n lm)) rfl ?_
            refine q_ev_run 5 (S' := (5, [some (.ref 17), some (.int x1), some (.int x2), some (.int (x3 ||| ((1 : Int32) <<< (m 16 x4.toNatClampNeg &&& 31)))), some (.int (x4 + 1)), some (.int 1)], [], qMM m n lm)) rfl ?_
            exact ih m x1 x2 (x3 ||| ((1 : Int32) <<< (m 16 x4.toNatClampNeg &&& 31))) (x4 + 1) (some (.int 1)) _ h hk
noncomputable def F_No_sittersAt_15 (m : (Nat → Nat → Int32)) (a1 : Int32) (a2 : Int32) : Option (Int32) :=
  Option.bind (FL_No_sittersAt_15_5 qFU m a1 a2 0 0) (fun y1 =>
    some (y1))
theorem T_No_sittersAt_15 {Ln : Nat} {xs : Nat → Int32} {n : (Nat → Nat → Int32)} {lm : Nat → Int64} {d : Nat} (hd : 0 ≤ d) {m : (Nat → Nat → Int32)} {a1 : Int32} {a2 : Int32} {rv : Int32} (h : F_No_sittersAt_15 m a1 a2 = some rv) : q_Ev (qXT Ln xs) d 32 (0, [some (.ref 17), some (.int a1), some (.int a2), none, none, none], [], qMM m n lm) (some (.int rv), qMM m n lm) := by
  unfold F_No_sittersAt_15 at h
  refine q_ev_run 4 (S' := (5, [some (.ref 17), some (.int a1), some (.int a2), some (.int 0), some (.int 0), none], [], qMM m n lm)) rfl ?_
  obtain ⟨y1, hl4, h⟩ := Option.bind_eq_some_iff.mp h
  try dsimp only at h
  refine TL_No_sittersAt_15_5 (by first | omega | decide) _ m a1 a2 0 0 (none) _ hl4 (fun w2 w3 => ?_)
  refine q_ev_run 1 (S' := (81, [some (.ref 17), some (.int a1), some (.int a2), some (.int y1), w2, w3], [.int y1], qMM m n lm)) rfl ?_
  have h_z0 := Option.some.inj h
  subst h_z0
  exact q_ev_ret rfl rfl
noncomputable def F_AT_meetingAt (m : (Nat → Nat → Int32)) (a1 : Int32) : Option (Int32) :=
  cond (q_in a1 8) (
    cond (q_in a1 8) (
      Option.bind (F_No_sittersAt_15 m ((1 : Int32) <<< (m 40 a1.toNatClampNeg &&& 31)) (m 41 a1.toNatClampNeg)) (fun r3 =>
        some (r3))
     ) none
   ) none
theorem T_AT_meetingAt {Ln : Nat} {xs : Nat → Int32} {n : (Nat → Nat → Int32)} {lm : Nat → Int64} {d : Nat} (hd : 1 ≤ d) {m : (Nat → Nat → Int32)} {a1 : Int32} {rv : Int32} (h : F_AT_meetingAt m a1 = some rv) : q_Ev (qXT Ln xs) d 96 (0, [some (.ref 0), some (.int a1)], [], qMM m n lm) (some (.int rv), qMM m n lm) := by
  unfold F_AT_meetingAt at h
  refine q_ev_run 7 (S' := (13, [some (.ref 0), some (.int a1)], [.int a1, .ref 42, .int 1, .ref 17], qMM m n lm)) rfl ?_
  obtain ⟨hb1, h⟩ := q_cd h
  refine q_ev_chk (b := q_in a1 8) hb1 (S' := (14, [some (.ref 0), some (.int a1)], [.int (m 40 a1.toNatClampNeg), .int 1, .ref 17], qMM m n lm)) rfl ?_
  refine q_ev_run 5 (S' := (23, [some (.ref 0), some (.int a1)], [.int a1, .ref 43, .int ((1 : Int32) <<< (m 40 a1.toNatClampNeg &&& 31)), .ref 17], qMM m n lm)) rfl ?_
  obtain ⟨hb2, h⟩ := q_cd h
  refine q_ev_chk (b := q_in a1 8) hb2 (S' := (24, [some (.ref 0), some (.int a1)], [.int (m 41 a1.toNatClampNeg), .int ((1 : Int32) <<< (m 40 a1.toNatClampNeg &&& 31)), .ref 17], qMM m n lm)) rfl ?_
  obtain ⟨r3, hf4, h⟩ := Option.bind_eq_some_iff.mp h
  try dsimp only at h
  refine q_ev_call (S' := (27, [some (.ref 0), some (.int a1)], [], qMM m n lm)) rfl (by omega) (T_No_sittersAt_15 (by first | omega | decide) hf4) ?_
  refine q_ev_eq (S' := (27, [some (.ref 0), some (.int a1)], [.int r3], qMM m n lm)) rfl ?_
  have h_z0 := Option.some.inj h
  subst h_z0
  exact q_ev_ret rfl rfl
