noncomputable def FL_Law_law_1000_18 (Ln : Nat) (xs : Nat → Int32) : Nat → (Nat → Nat → Int32) → (Nat → Nat → Int32) → (Nat → Int64) → Int32 → Option ((Int32 × (Nat → Nat → Int32) × (Nat → Nat → Int32) × (Nat → Int64)) ⊕ ((Nat → Nat → Int32) × (Nat → Nat → Int32) × (Nat → Int64)))
  | 0, _, _, _, _ => none
  | fu + 1, mc, mm, lm, x3 =>
    if (Int32.ofNat Ln - 5) < x3 then
      some (.inr (mc, mm, lm))
    else
      cond (q_in x3 Ln) (
        if (xs x3.toNatClampNeg &&& 31) = 0 then
          cond (q_in (x3 + 1) Ln) (
            Option.bind (F_AT_type mc (xs ((x3 + 1)).toNatClampNeg)) (fun (r4, m5) =>
              cond (q_in (x3 + 1) Ln) (
                Option.bind (F_Mo_type mm (xs ((x3 + 1)).toNatClampNeg)) (fun (r8, m9) =>
                  if r4 = r8 then
                    FL_Law_law_1000_18 Ln xs fu m5 m9 lm (x3 + 5)
                  else
                    some (.inl (0, m5, m9, lm)))
               ) none)
           ) none
        else
        if (xs x3.toNatClampNeg &&& 31) = 1 then
          Option.bind (F_AT_clear mc) (fun (r13, m14) =>
            Option.bind (F_Mo_clear mm) (fun (r16, m17) =>
              if r13 = r16 then
                FL_Law_law_1000_18 Ln xs fu m14 m17 lm (x3 + 5)
              else
                some (.inl (0, m14, m17, lm))))
        else
        if (xs x3.toNatClampNeg &&& 31) = 2 then
          Option.bind (F_AT_furrows mc) (fun (r21, m22) =>
            Option.bind (F_Mo_furrows mm) (fun (r24, m25) =>
              if r21 = r24 then
                FL_Law_law_1000_18 Ln xs fu m22 m25 lm (x3 + 5)
              else
                some (.inl (0, m22, m25, lm))))
        else
        if (xs x3.toNatClampNeg &&& 31) = 3 then
          cond (q_in (x3 + 1) Ln) (
            cond (q_in (x3 + 2) Ln) (
              Option.bind (F_AT_furrow mc (xs ((x3 + 1)).toNatClampNeg) (xs ((x3 + 2)).toNatClampNeg)) (fun r31 =>
                cond (q_in (x3 + 1) Ln) (
                  cond (q_in (x3 + 2) Ln) (
                    Option.bind (F_Mo_furrow mm (xs ((x3 + 1)).toNatClampNeg) (xs ((x3 + 2)).toNatClampNeg)) (fun r35 =>
                      if r31 = r35 then
                        FL_Law_law_1000_18 Ln xs fu mc mm lm (x3 + 5)
                      else
                        some (.inl (0, mc, mm, lm)))
                   ) none
                 ) none)
             ) none
           ) none
        else
        if (xs x3.toNatClampNeg &&& 31) = 4 then
          cond (q_in (x3 + 1) Ln) (
            cond (q_in (x3 + 2) Ln) (
              Option.bind (F_AT_way mc (xs ((x3 + 1)).toNatClampNeg) (xs ((x3 + 2)).toNatClampNeg)) (fun r41 =>
                cond (q_in (x3 + 1) Ln) (
                  cond (q_in (x3 + 2) Ln) (
                    Option.bind (F_Mo_way mm (xs ((x3 + 1)).toNatClampNeg) (xs ((x3 + 2)).toNatClampNeg)) (fun r45 =>
                      if r41 = r45 then
                        FL_Law_law_1000_18 Ln xs fu mc mm lm (x3 + 5)
                      else
                        some (.inl (0, mc, mm, lm)))
                   ) none
                 ) none)
             ) none
           ) none
        else
        if (xs x3.toNatClampNeg &&& 31) = 5 then
          cond (q_in (x3 + 1) Ln) (
            Option.bind (F_AT_sights mc (xs ((x3 + 1)).toNatClampNeg)) (fun r50 =>
              cond (q_in (x3 + 1) Ln) (
                Option.bind (F_Mo_sights mm (xs ((x3 + 1)).toNatClampNeg)) (fun r53 =>
                  if r50 = r53 then
                    FL_Law_law_1000_18 Ln xs fu mc mm lm (x3 + 5)
                  else
                    some (.inl (0, mc, mm, lm)))
               ) none)
           ) none
        else
        if (xs x3.toNatClampNeg &&& 31) = 6 then
          cond (q_in (x3 + 1) Ln) (
            Option.bind (F_AT_hedgehog mc (xs ((x3 + 1)).toNatClampNeg)) (fun r58 =>
              cond (q_in (x3 + 1) Ln) (
                Option.bind (F_Mo_hedgehog mm (xs ((x3 + 1)).toNatClampNeg)) (fun r61 =>
                  if r58 = r61 then
                    FL_Law_law_1000_18 Ln xs fu mc mm lm (x3 + 5)
                  else
                    some (.inl (0, mc, mm, lm)))
               ) none)
           ) none
        else
        if (xs x3.toNatClampNeg &&& 31) = 7 then
          cond (q_in (x3 + 1) Ln) (
            cond (q_in (x3 + 2) Ln) (
              Option.bind (F_AT_point mc (xs ((x3 + 1)).toNatClampNeg) (xs ((x3 + 2)).toNatClampNeg)) (fun r67 =>
                cond (q_in (x3 + 1) Ln) (
                  cond (q_in (x3 + 2) Ln) (
                    Option.bind (F_Mo_point mm (xs ((x3 + 1)).toNatClampNeg) (xs ((x3 + 2)).toNatClampNeg)) (fun r71 =>
                      if r67 = r71 then
                        FL_Law_law_1000_18 Ln xs fu mc mm lm (x3 + 5)
                      else
                        some (.inl (0, mc, mm, lm)))
                   ) none
                 ) none)
             ) none
           ) none
        else
        if (xs x3.toNatClampNeg &&& 31) = 8 then
          cond (q_in (x3 + 1) Ln) (
            cond (q_in (x3 + 2) Ln) (
              cond (q_in (x3 + 3) Ln) (
                cond (q_in (x3 + 4) Ln) (
                  Option.bind (F_AT_sits mc (xs ((x3 + 1)).toNatClampNeg) (xs ((x3 + 2)).toNatClampNeg) (xs ((x3 + 3)).toNatClampNeg) (xs ((x3 + 4)).toNatClampNeg)) (fun (r79, m80) =>
                    cond (q_in (x3 + 1) Ln) (
                      cond (q_in (x3 + 2) Ln) (
                        cond (q_in (x3 + 3) Ln) (
                          cond (q_in (x3 + 4) Ln) (
                            Option.bind (F_Mo_sits mm (xs ((x3 + 1)).toNatClampNeg) (xs ((x3 + 2)).toNatClampNeg) (xs ((x3 + 3)).toNatClampNeg) (xs ((x3 + 4)).toNatClampNeg)) (fun (r86, m87) =>
                              if r79 = r86 then
                                FL_Law_law_1000_18 Ln xs fu m80 m87 lm (x3 + 5)
                              else
                                some (.inl (0, m80, m87, lm)))
                           ) none
                         ) none
                       ) none
                     ) none)
                 ) none
               ) none
             ) none
           ) none
        else
        if (xs x3.toNatClampNeg &&& 31) = 9 then
          cond (q_in (x3 + 1) Ln) (
            cond (q_in (x3 + 2) Ln) (
              Option.bind (F_AT_waits mc (xs ((x3 + 1)).toNatClampNeg) (xs ((x3 + 2)).toNatClampNeg)) (fun (r93, m94) =>
                cond (q_in (x3 + 1) Ln) (
                  cond (q_in (x3 + 2) Ln) (
                    Option.bind (F_Mo_waits mm (xs ((x3 + 1)).toNatClampNeg) (xs ((x3 + 2)).toNatClampNeg)) (fun (r98, m99) =>
                      if r93 = r98 then
                        FL_Law_law_1000_18 Ln xs fu m94 m99 lm (x3 + 5)
                      else
                        some (.inl (0, m94, m99, lm)))
                   ) none
                 ) none)
             ) none
           ) none
        else
        if (xs x3.toNatClampNeg &&& 31) = 10 then
          Option.bind (F_AT_undo mc) (fun (r103, m104) =>
            Option.bind (F_Mo_undo mm) (fun (r106, m107) =>
              if r103 = r106 then
                FL_Law_law_1000_18 Ln xs fu m104 m107 lm (x3 + 5)
              else
                some (.inl (0, m104, m107, lm))))
        else
        if (xs x3.toNatClampNeg &&& 31) = 11 then
          cond (q_in (x3 + 1) Ln) (
            cond (q_in (x3 + 2) Ln) (
              Option.bind (F_AT_sat mc (xs ((x3 + 1)).toNatClampNeg) (xs ((x3 + 2)).toNatClampNeg)) (fun r113 =>
                cond (q_in (x3 + 1) Ln) (
                  cond (q_in (x3 + 2) Ln) (
                    Option.bind (F_Mo_sat mm (xs ((x3 + 1)).toNatClampNeg) (xs ((x3 + 2)).toNatClampNeg)) (fun r117 =>
                      if r113 = r117 then
                        FL_Law_law_1000_18 Ln xs fu mc mm lm (x3 + 5)
                      else
                        some (.inl (0, mc, mm, lm)))
                   ) none
                 ) none)
             ) none
           ) none
        else
        if (xs x3.toNatClampNeg &&& 31) = 12 then
          cond (q_in (x3 + 1) Ln) (
            Option.bind (F_AT_race mc (xs ((x3 + 1)).toNatClampNeg)) (fun r122 =>
              cond (q_in (x3 + 1) Ln) (
                Option.bind (F_Mo_race mm (xs ((x3 + 1)).toNatClampNeg)) (fun r125 =>
                  if r122 = r125 then
                    FL_Law_law_1000_18 Ln xs fu mc mm lm (x3 + 5)
                  else
                    some (.inl (0, mc, mm, lm)))
               ) none)
           ) none
        else
        if (xs x3.toNatClampNeg &&& 31) = 13 then
          Option.bind (F_AT_one mc) (fun (r129, m130) =>
            Option.bind (F_Mo_one mm) (fun (r132, m133) =>
              if r129 = r132 then
                FL_Law_law_1000_18 Ln xs fu m130 m133 lm (x3 + 5)
              else
                some (.inl (0, m130, m133, lm))))
        else
        if (xs x3.toNatClampNeg &&& 31) = 14 then
          cond (q_in (x3 + 1) Ln) (
            Option.bind (F_AT_needed mc (xs ((x3 + 1)).toNatClampNeg)) (fun (r138, m139) =>
              cond (q_in (x3 + 1) Ln) (
                Option.bind (F_Mo_needed mm (xs ((x3 + 1)).toNatClampNeg)) (fun (r142, m143) =>
                  if r138 = r142 then
                    FL_Law_law_1000_18 Ln xs fu m139 m143 lm (x3 + 5)
                  else
                    some (.inl (0, m139, m143, lm)))
               ) none)
           ) none
        else
        if (xs x3.toNatClampNeg &&& 31) = 15 then
          cond (q_in (x3 + 1) Ln) (
            cond (q_in (x3 + 2) Ln) (
              cond (q_in (x3 + 3) Ln) (
                Option.bind (F_AT_worst mc (xs ((x3 + 1)).toNatClampNeg) (xs ((x3 + 2)).toNatClampNeg) (xs ((x3 + 3)).toNatClampNeg)) (fun (r150, m151) =>
                  cond (q_in (x3 + 1) Ln) (
                    cond (q_in (x3 + 2) Ln) (
                      cond (q_in (x3 + 3) Ln) (
                        Option.bind (F_Mo_worst mm (xs ((x3 + 1)).toNatClampNeg) (xs ((x3 + 2)).toNatClampNeg) (xs ((x3 + 3)).toNatClampNeg)) (fun (r156, m157) =>
                          if r150 = r156 then
                            FL_Law_law_1000_18 Ln xs fu m151 m157 lm (x3 + 5)
                          else
                            some (.inl (0, m151, m157, lm)))
                       ) none
                     ) none
                   ) none)
               ) none
             ) none
           ) none
        else
        if (xs x3.toNatClampNeg &&& 31) = 16 then
          cond (q_in (x3 + 1) Ln) (
            cond (q_in (x3 + 2) Ln) (
              Option.bind (F_AT_saw mc (xs ((x3 + 1)).toNatClampNeg) (xs ((x3 + 2)).toNatClampNeg)) (fun (r163, m164) =>
                cond (q_in (x3 + 1) Ln) (
                  cond (q_in (x3 + 2) Ln) (
                    Option.bind (F_Mo_saw mm (xs ((x3 + 1)).toNatClampNeg) (xs ((x3 + 2)).toNatClampNeg)) (fun (r168, m169) =>
                      if r163 = r168 then
                        FL_Law_law_1000_18 Ln xs fu m164 m169 lm (x3 + 5)
                      else
                        some (.inl (0, m164, m169, lm)))
                   ) none
                 ) none)
             ) none
           ) none
        else
        if (xs x3.toNatClampNeg &&& 31) = 17 then
          Option.bind (F_AT_forget mc) (fun (r173, m174) =>
            Option.bind (F_Mo_forget mm) (fun (r176, m177) =>
              if r173 = r176 then
                FL_Law_law_1000_18 Ln xs fu m174 m177 lm (x3 + 5)
              else
                some (.inl (0, m174, m177, lm))))
        else
        if (xs x3.toNatClampNeg &&& 31) = 18 then
          Option.bind (F_AT_fits mc) (fun (r181, m182) =>
            Option.bind (F_Mo_fits mm) (fun (r184, m185) =>
              if r181 = r184 then
                FL_Law_law_1000_18 Ln xs fu m182 m185 lm (x3 + 5)
              else
                some (.inl (0, m182, m185, lm))))
        else
        if (xs x3.toNatClampNeg &&& 31) = 19 then
          cond (q_in (x3 + 1) Ln) (
            Option.bind (F_AT_sure mc (xs ((x3 + 1)).toNatClampNeg)) (fun (r190, m191) =>
              cond (q_in (x3 + 1) Ln) (
                Option.bind (F_Mo_sure mm (xs ((x3 + 1)).toNatClampNeg)) (fun (r194, m195) =>
                  if r190 = r194 then
                    FL_Law_law_1000_18 Ln xs fu m191 m195 lm (x3 + 5)
                  else
                    some (.inl (0, m191, m195, lm)))
               ) none)
           ) none
        else
        if (xs x3.toNatClampNeg &&& 31) = 20 then
          cond (q_in (x3 + 1) Ln) (
            Option.bind (F_AT_ask mc (xs ((x3 + 1)).toNatClampNeg)) (fun r200 =>
              cond (q_in (x3 + 1) Ln) (
                Option.bind (F_Mo_ask mm (xs ((x3 + 1)).toNatClampNeg)) (fun r203 =>
                  if r200 = r203 then
                    FL_Law_law_1000_18 Ln xs fu mc mm lm (x3 + 5)
                  else
                    some (.inl (0, mc, mm, lm)))
               ) none)
           ) none
        else
        if (xs x3.toNatClampNeg &&& 31) = 21 then
          cond (q_in (x3 + 1) Ln) (
            cond (q_in (x3 + 2) Ln) (
              Option.bind (F_AT_bet mc (xs ((x3 + 1)).toNatClampNeg) (xs ((x3 + 2)).toNatClampNeg)) (fun r209 =>
                cond (q_in (x3 + 1) Ln) (
                  cond (q_in (x3 + 2) Ln) (
                    Option.bind (F_Mo_bet mm (xs ((x3 + 1)).toNatClampNeg) (xs ((x3 + 2)).toNatClampNeg)) (fun r213 =>
                      if (lg_cmp r209 r213) = 0 then
                        FL_Law_law_1000_18 Ln xs fu mc mm lm (x3 + 5)
                      else
                        some (.inl (0, mc, mm, lm)))
                   ) none
                 ) none)
             ) none
           ) none
        else
        if (xs x3.toNatClampNeg &&& 31) = 22 then
          cond (q_in (x3 + 1) Ln) (
            cond (q_in (x3 + 2) Ln) (
              Option.bind (F_AT_rate mc lm (xs ((x3 + 1)).toNatClampNeg) (xs ((x3 + 2)).toNatClampNeg)) (fun (r219, lm220) =>
                cond (q_in (x3 + 1) Ln) (
                  cond (q_in (x3 + 2) Ln) (
                    Option.bind (F_Mo_rate mm lm220 (xs ((x3 + 1)).toNatClampNeg) (xs ((x3 + 2)).toNatClampNeg)) (fun (r224, lm225) =>
                      if r219 = r224 then
                        FL_Law_law_1000_18 Ln xs fu mc mm lm225 (x3 + 5)
                      else
                        some (.inl (0, mc, mm, lm225)))
                   ) none
                 ) none)
             ) none
           ) none
        else
        if (xs x3.toNatClampNeg &&& 31) = 23 then
          cond (q_in (x3 + 1) Ln) (
            Option.bind (F_AT_keep mc (xs ((x3 + 1)).toNatClampNeg)) (fun (r230, m231) =>
              cond (q_in (x3 + 1) Ln) (
                Option.bind (F_Mo_keep mm (xs ((x3 + 1)).toNatClampNeg)) (fun (r234, m235) =>
                  if r230 = r234 then
                    FL_Law_law_1000_18 Ln xs fu m231 m235 lm (x3 + 5)
                  else
                    some (.inl (0, m231, m235, lm)))
               ) none)
           ) none
        else
        if (xs x3.toNatClampNeg &&& 31) = 24 then
          cond (q_in (x3 + 1) Ln) (
            Option.bind (F_AT_back mc (xs ((x3 + 1)).toNatClampNeg)) (fun (r240, m241) =>
              cond (q_in (x3 + 1) Ln) (
                Option.bind (F_Mo_back mm (xs ((x3 + 1)).toNatClampNeg)) (fun (r244, m245) =>
                  if r240 = r244 then
                    FL_Law_law_1000_18 Ln xs fu m241 m245 lm (x3 + 5)
                  else
                    some (.inl (0, m241, m245, lm)))
               ) none)
           ) none
        else
        if (xs x3.toNatClampNeg &&& 31) = 25 then
          cond (q_in (x3 + 1) Ln) (
            Option.bind (F_AT_count mc (xs ((x3 + 1)).toNatClampNeg)) (fun r250 =>
              cond (q_in (x3 + 1) Ln) (
                Option.bind (F_Mo_count mm (xs ((x3 + 1)).toNatClampNeg)) (fun r253 =>
                  if r250 = r253 then
                    FL_Law_law_1000_18 Ln xs fu mc mm lm (x3 + 5)
                  else
                    some (.inl (0, mc, mm, lm)))
               ) none)
           ) none
        else
        if (xs x3.toNatClampNeg &&& 31) = 26 then
          Option.bind (F_AT_trace mc lm) (fun r257 =>
            Option.bind (F_Mo_trace mm lm) (fun r259 =>
              if (lg_cmp r257 r259) = 0 then
                FL_Law_law_1000_18 Ln xs fu mc mm lm (x3 + 5)
              else
                some (.inl (0, mc, mm, lm))))
        else
          FL_Law_law_1000_18 Ln xs fu mc mm lm (x3 + 5)
       ) none
set_option maxHeartbeats 40000000 in
set_option maxRecDepth 20000 in
theorem TL_Law_law_1000_18 {Ln : Nat} {xs : Nat → Int32}  {d : Nat} (hd : 48 ≤ d) {r : Option Value × qM} : ∀ (fu : Nat) (mc : (Nat → Nat → Int32)) (mm : (Nat → Nat → Int32)) (lm : (Nat → Int64)) (x3 : Int32)  (o : (Int32 × (Nat → Nat → Int32) × (Nat → Nat → Int32) × (Nat → Int64)) ⊕ ((Nat → Nat → Int32) × (Nat → Nat → Int32) × (Nat → Int64))), FL_Law_law_1000_18 Ln xs fu mc mm lm x3 = some o → (∀ (rv : Int32) (mc1 : (Nat → Nat → Int32)) (mm1 : (Nat → Nat → Int32)) (lm1 : (Nat → Int64)), o = .inl (rv, mc1, mm1, lm1) → r = (some (.int rv), qMM mc1 mm1 lm1)) → (∀ (mc1 : (Nat → Nat → Int32)) (mm1 : (Nat → Nat → Int32)) (lm1 : (Nat → Int64)), o = .inr (mc1, mm1, lm1) → ∀ (u3 : Option Value), q_Ev (qXT Ln xs) d 170 (845, [some (.ref 1000), some (.ref 0), some (.ref 56), u3], [], qMM mc1 mm1 lm1) r) → q_Ev (qXT Ln xs) d 170 (18, [some (.ref 1000), some (.ref 0), some (.ref 56), some (.int x3)], [], qMM mc mm lm) r := by
  intro fu
  induction fu with
  | zero => intro mc mm lm x3 o h hr hk; cases h
  | succ fu ih =>
    intro mc mm lm x3 o h hr hk
    rw [FL_Law_law_1000_18] at h
    refine q_ev_run 5 (S' := (23, [some (.ref 1000), some (.ref 0), some (.ref 56), some (.int x3)], [.int (Int32.ofNat Ln - 5), .int x3], qMM mc mm lm)) rfl ?_
    by_cases hc1 : (Int32.ofNat Ln - 5) < x3
    · rw [if_pos hc1] at h
      refine q_ev_brT hc1 (a := 845) (b := 26) rfl ?_
      obtain rfl := (Option.some.inj h).symm
      exact hk _ _ _ rfl (some (.int x3))
    · rw [if_neg hc1] at h
      refine q_ev_brF hc1 (a := 845) (b := 26) rfl ?_
      refine q_ev_run 2 (S' := (28, [some (.ref 1000), some (.ref 0), some (.ref 56), some (.int x3)], [.int x3, .ref 1000], qMM mc mm lm)) rfl ?_
      obtain ⟨hb2, h⟩ := q_cd h
      refine q_ev_chk (b := q_in x3 Ln) hb2 (S' := (29, [some (.ref 1000), some (.ref 0), some (.ref 56), some (.int x3)], [.int (xs x3.toNatClampNeg)], qMM mc mm lm)) rfl ?_
      refine q_ev_run 2 (S' := (32, [some (.ref 1000), some (.ref 0), some (.ref 56), some (.int x3)], [.int (xs x3.toNatClampNeg &&& 31)], qMM mc mm lm)) rfl ?_
      by_cases hc12 : (xs x3.toNatClampNeg &&& 31) = 0
      · rw [if_pos hc12] at h
        refine q_ev_sw (v := 156) (a := 156) (show q_sw (xs x3.toNatClampNeg &&& 31) 839 0 [156, 179, 192, 205, 238, 271, 294, 317, 350, 403, 436, 449, 482, 505, 518, 541, 584, 617, 630, 643, 666, 689, 723, 756, 779, 802, 825] = 156 by rw [hc12]; rfl) rfl rfl ?_
        refine q_ev_run 5 (S' := (161, [some (.ref 1000), some (.ref 0), some (.ref 56), some (.int x3)], [.int (x3 + 1), .ref 1000, .ref 0], qMM mc mm lm)) rfl ?_
        obtain ⟨hb3, h⟩ := q_cd h
        refine q_ev_chk (b := q_in (x3 + 1) Ln) hb3 (S' := (162, [some (.ref 1000), some (.ref 0), some (.ref 56), some (.int x3)], [.int (xs ((x3 + 1)).toNatClampNeg), .ref 0], qMM mc mm lm)) rfl ?_
        obtain ⟨⟨r4, m5⟩, hf6, h⟩ := Option.bind_eq_some_iff.mp h
        try dsimp only at h
        refine q_ev_call (S' := (165, [some (.ref 1000), some (.ref 0), some (.ref 56), some (.int x3)], [], qMM mc mm lm)) rfl (by omega) (T_AT_type (by first | omega | decide) hf6) ?_
        refine q_ev_eq (S' := (165, [some (.ref 1000), some (.ref 0), some (.ref 56), some (.int x3)], [.int r4], qMM m5 mm lm)) rfl ?_
        refine q_ev_run 5 (S' := (170, [some (.ref 1000), some (.ref 0), some (.ref 56), some (.int x3)], [.int (x3 + 1), .ref 1000, .ref 56, .int r4], qMM m5 mm lm)) rfl ?_
        obtain ⟨hb7, h⟩ := q_cd h
        refine q_ev_chk (b := q_in (x3 + 1) Ln) hb7 (S' := (171, [some (.ref 1000), some (.ref 0), some (.ref 56), some (.int x3)], [.int (xs ((x3 + 1)).toNatClampNeg), .ref 56, .int r4], qMM m5 mm lm)) rfl ?_
        obtain ⟨⟨r8, m9⟩, hf10, h⟩ := Option.bind_eq_some_iff.mp h
        try dsimp only at h
        refine q_ev_call (S' := (174, [some (.ref 1000), some (.ref 0), some (.ref 56), some (.int x3)], [.int r4], qMM m5 mm lm)) rfl (by omega) (T_Mo_type (by first | omega | decide) hf10) ?_
        refine q_ev_eq (S' := (174, [some (.ref 1000), some (.ref 0), some (.ref 56), some (.int x3)], [.int r8, .int r4], qMM m5 m9 lm)) rfl ?_
        by_cases hc11 : r4 = r8
        · rw [if_pos hc11] at h
          refine q_ev_brT hc11 (a := 839) (b := 177) rfl ?_
          refine q_ev_run 2 (S' := (18, [some (.ref 1000), some (.ref 0), some (.ref 56), some (.int (x3 + 5))], [], qMM m5 m9 lm)) rfl ?_
          exact ih m5 m9 lm (x3 + 5) _ h hr hk
        · rw [if_neg hc11] at h
          refine q_ev_brF hc11 (a := 839) (b := 177) rfl ?_
          refine q_ev_run 1 (S' := (178, [some (.ref 1000), some (.ref 0), some (.ref 56), some (.int x3)], [.int 0], qMM m5 m9 lm)) rfl ?_
          obtain rfl := (Option.some.inj h).symm
          rw [hr _ _ _ _ rfl]
          exact q_ev_ret rfl rfl
      rw [if_neg hc12] at h
      by_cases hc20 : (xs x3.toNatClampNeg &&& 31) = 1
      · rw [if_pos hc20] at h
        refine q_ev_sw (v := 179) (a := 179) (show q_sw (xs x3.toNatClampNeg &&& 31) 839 0 [156, 179, 192, 205, 238, 271, 294, 317, 350, 403, 436, 449, 482, 505, 518, 541, 584, 617, 630, 643, 666, 689, 723, 756, 779, 802, 825] = 179 by rw [hc20]; rfl) rfl rfl ?_
        refine q_ev_run 1 (S' := (180, [some (.ref 1000), some (.ref 0), some (.ref 56), some (.int x3)], [.ref 0], qMM mc mm lm)) rfl ?_
        obtain ⟨⟨r13, m14⟩, hf15, h⟩ := Option.bind_eq_some_iff.mp h
        try dsimp only at h
        refine q_ev_call (S' := (183, [some (.ref 1000), some (.ref 0), some (.ref 56), some (.int x3)], [], qMM mc mm lm)) rfl (by omega) (T_AT_clear (by first | omega | decide) hf15) ?_
        refine q_ev_eq (S' := (183, [some (.ref 1000), some (.ref 0), some (.ref 56), some (.int x3)], [.int r13], qMM m14 mm lm)) rfl ?_
        refine q_ev_run 1 (S' := (184, [some (.ref 1000), some (.ref 0), some (.ref 56), some (.int x3)], [.ref 56, .int r13], qMM m14 mm lm)) rfl ?_
        obtain ⟨⟨r16, m17⟩, hf18, h⟩ := Option.bind_eq_some_iff.mp h
        try dsimp only at h
        refine q_ev_call (S' := (187, [some (.ref 1000), some (.ref 0), some (.ref 56), some (.int x3)], [.int r13], qMM m14 mm lm)) rfl (by omega) (T_Mo_clear (by first | omega | decide) hf18) ?_
        refine q_ev_eq (S' := (187, [some (.ref 1000), some (.ref 0), some (.ref 56), some (.int x3)], [.int r16, .int r13], qMM m14 m17 lm)) rfl ?_
        by_cases hc19 : r13 = r16
        · rw [if_pos hc19] at h
          refine q_ev_brT hc19 (a := 839) (b := 190) rfl ?_
          refine q_ev_run 2 (S' := (18, [some (.ref 1000), some (.ref 0), some (.ref 56), some (.int (x3 + 5))], [], qMM m14 m17 lm)) rfl ?_
          exact ih m14 m17 lm (x3 + 5) _ h hr hk
        · rw [if_neg hc19] at h
          refine q_ev_brF hc19 (a := 839) (b := 190) rfl ?_
          refine q_ev_run 1 (S' := (191, [some (.ref 1000), some (.ref 0), some (.ref 56), some (.int x3)], [.int 0], qMM m14 m17 lm)) rfl ?_
          obtain rfl := (Option.some.inj h).symm
          rw [hr _ _ _ _ rfl]
          exact q_ev_ret rfl rfl
      rw [if_neg hc20] at h
      by_cases hc28 : (xs x3.toNatClampNeg &&& 31) = 2
      · rw [if_pos hc28] at h
        refine q_ev_sw (v := 192) (a := 192) (show q_sw (xs x3.toNatClampNeg &&& 31) 839 0 [156, 179, 192, 205, 238, 271, 294, 317, 350, 403, 436, 449, 482, 505, 518, 541, 584, 617, 630, 643, 666, 689, 723, 756, 779, 802, 825] = 192 by rw [hc28]; rfl) rfl rfl ?_
        refine q_ev_run 1 (S' := (193, [some (.ref 1000), some (.ref 0), some (.ref 56), some (.int x3)], [.ref 0], qMM mc mm lm)) rfl ?_
        obtain ⟨⟨r21, m22⟩, hf23, h⟩ := Option.bind_eq_some_iff.mp h
        try dsimp only at h
        refine q_ev_call (S' := (196, [some (.ref 1000), some (.ref 0), some (.ref 56), some (.int x3)], [], qMM mc mm lm)) rfl (by omega) (T_AT_furrows (by first | omega | decide) hf23) ?_
        refine q_ev_eq (S' := (196, [some (.ref 1000), some (.ref 0), some (.ref 56), some (.int x3)], [.int r21], qMM m22 mm lm)) rfl ?_
        refine q_ev_run 1 (S' := (197, [some (.ref 1000), some (.ref 0), some (.ref 56), some (.int x3)], [.ref 56, .int r21], qMM m22 mm lm)) rfl ?_
        obtain ⟨⟨r24, m25⟩, hf26, h⟩ := Option.bind_eq_some_iff.mp h
        try dsimp only at h
        refine q_ev_call (S' := (200, [some (.ref 1000), some (.ref 0), some (.ref 56), some (.int x3)], [.int r21], qMM m22 mm lm)) rfl (by omega) (T_Mo_furrows (by first | omega | decide) hf26) ?_
        refine q_ev_eq (S' := (200, [some (.ref 1000), some (.ref 0), some (.ref 56), some (.int x3)], [.int r24, .int r21], qMM m22 m25 lm)) rfl ?_
        by_cases hc27 : r21 = r24
        · rw [if_pos hc27] at h
          refine q_ev_brT hc27 (a := 839) (b := 203) rfl ?_
          refine q_ev_run 2 (S' := (18, [some (.ref 1000), some (.ref 0), some (.ref 56), some (.int (x3 + 5))], [], qMM m22 m25 lm)) rfl ?_
          exact ih m22 m25 lm (x3 + 5) _ h hr hk
        · rw [if_neg hc27] at h
          refine q_ev_brF hc27 (a := 839) (b := 203) rfl ?_
          refine q_ev_run 1 (S' := (204, [some (.ref 1000), some (.ref 0), some (.ref 56), some (.int x3)], [.int 0], qMM m22 m25 lm)) rfl ?_
          obtain rfl := (Option.some.inj h).symm
          rw [hr _ _ _ _ rfl]
          exact q_ev_ret rfl rfl
      rw [if_neg hc28] at h
      by_cases hc38 : (xs x3.toNatClampNeg &&& 31) = 3
      · rw [if_pos hc38] at h
        refine q_ev_sw (v := 205) (a := 205) (show q_sw (xs x3.toNatClampNeg &&& 31) 839 0 [156, 179, 192, 205, 238, 271, 294, 317, 350, 403, 436, 449, 482, 505, 518, 541, 584, 617, 630, 643, 666, 689, 723, 756, 779, 802, 825] = 205 by rw [hc38]; rfl) rfl rfl ?_
        refine q_ev_run 5 (S' := (210, [some (.ref 1000), some (.ref 0), some (.ref 56), some (.int x3)], [.int (x3 + 1), .ref 1000, .ref 0], qMM mc mm lm)) rfl ?_
        obtain ⟨hb29, h⟩ := q_cd h
        refine q_ev_chk (b := q_in (x3 + 1) Ln) hb29 (S' := (211, [some (.ref 1000), some (.ref 0), some (.ref 56), some (.int x3)], [.int (xs ((x3 + 1)).toNatClampNeg), .ref 0], qMM mc mm lm)) rfl ?_
        refine q_ev_run 4 (S' := (215, [some (.ref 1000), some (.ref 0), some (.ref 56), some (.int x3)], [.int (x3 + 2), .ref 1000, .int (xs ((x3 + 1)).toNatClampNeg), .ref 0], qMM mc mm lm)) rfl ?_
        obtain ⟨hb30, h⟩ := q_cd h
        refine q_ev_chk (b := q_in (x3 + 2) Ln) hb30 (S' := (216, [some (.ref 1000), some (.ref 0), some (.ref 56), some (.int x3)], [.int (xs ((x3 + 2)).toNatClampNeg), .int (xs ((x3 + 1)).toNatClampNeg), .ref 0], qMM mc mm lm)) rfl ?_
        obtain ⟨r31, hf32, h⟩ := Option.bind_eq_some_iff.mp h
        try dsimp only at h
        refine q_ev_call (S' := (219, [some (.ref 1000), some (.ref 0), some (.ref 56), some (.int x3)], [], qMM mc mm lm)) rfl (by omega) (T_AT_furrow (by first | omega | decide) hf32) ?_
        refine q_ev_eq (S' := (219, [some (.ref 1000), some (.ref 0), some (.ref 56), some (.int x3)], [.int r31], qMM mc mm lm)) rfl ?_
        refine q_ev_run 5 (S' := (224, [some (.ref 1000), some (.ref 0), some (.ref 56), some (.int x3)], [.int (x3 + 1), .ref 1000, .ref 56, .int r31], qMM mc mm lm)) rfl ?_
        obtain ⟨hb33, h⟩ := q_cd h
        refine q_ev_chk (b := q_in (x3 + 1) Ln) hb33 (S' := (225, [some (.ref 1000), some (.ref 0), some (.ref 56), some (.int x3)], [.int (xs ((x3 + 1)).toNatClampNeg), .ref 56, .int r31], qMM mc mm lm)) rfl ?_
        refine q_ev_run 4 (S' := (229, [some (.ref 1000), some (.ref 0), some (.ref 56), some (.int x3)], [.int (x3 + 2), .ref 1000, .int (xs ((x3 + 1)).toNatClampNeg), .ref 56, .int r31], qMM mc mm lm)) rfl ?_
        obtain ⟨hb34, h⟩ := q_cd h
        refine q_ev_chk (b := q_in (x3 + 2) Ln) hb34 (S' := (230, [some (.ref 1000), some (.ref 0), some (.ref 56), some (.int x3)], [.int (xs ((x3 + 2)).toNatClampNeg), .int (xs ((x3 + 1)).toNatClampNeg), .ref 56, .int r31], qMM mc mm lm)) rfl ?_
        obtain ⟨r35, hf36, h⟩ := Option.bind_eq_some_iff.mp h
        try dsimp only at h
        refine q_ev_call (S' := (233, [some (.ref 1000), some (.ref 0), some (.ref 56), some (.int x3)], [.int r31], qMM mc mm lm)) rfl (by omega) (T_Mo_furrow (by first | omega | decide) hf36) ?_
        refine q_ev_eq (S' := (233, [some (.ref 1000), some (.ref 0), some (.ref 56), some (.int x3)], [.int r35, .int r31], qMM mc mm lm)) rfl ?_
        by_cases hc37 : r31 = r35
        · rw [if_pos hc37] at h
          refine q_ev_brT hc37 (a := 839) (b := 236) rfl ?_
          refine q_ev_run 2 (S' := (18, [some (.ref 1000), some (.ref 0), some (.ref 56), some (.int (x3 + 5))], [], qMM mc mm lm)) rfl ?_
          exact ih mc mm lm (x3 + 5) _ h hr hk
        · rw [if_neg hc37] at h
          refine q_ev_brF hc37 (a := 839) (b := 236) rfl ?_
          refine q_ev_run 1 (S' := (237, [some (.ref 1000), some (.ref 0), some (.ref 56), some (.int x3)], [.int 0], qMM mc mm lm)) rfl ?_
          obtain rfl := (Option.some.inj h).symm
          rw [hr _ _ _ _ rfl]
          exact q_ev_ret rfl rfl
      rw [if_neg hc38] at h
      by_cases hc48 : (xs x3.toNatClampNeg &&& 31) = 4
      · rw [if_pos hc48] at h
        refine q_ev_sw (v := 238) (a := 238) (show q_sw (xs x3.toNatClampNeg &&& 31) 839 0 [156, 179, 192, 205, 238, 271, 294, 317, 350, 403, 436, 449, 482, 505, 518, 541, 584, 617, 630, 643, 666, 689, 723, 756, 779, 802, 825] = 238 by rw [hc48]; rfl) rfl rfl ?_
        refine q_ev_run 5 (S' := (243, [some (.ref 1000), some (.ref 0), some (.ref 56), some (.int x3)], [.int (x3 + 1), .ref 1000, .ref 0], qMM mc mm lm)) rfl ?_
        obtain ⟨hb39, h⟩ := q_cd h
        refine q_ev_chk (b := q_in (x3 + 1) Ln) hb39 (S' := (244, [some (.ref 1000), some (.ref 0), some (.ref 56), some (.int x3)], [.int (xs ((x3 + 1)).toNatClampNeg), .ref 0], qMM mc mm lm)) rfl ?_
        refine q_ev_run 4 (S' := (248, [some (.ref 1000), some (.ref 0), some (.ref 56), some (.int x3)], [.int (x3 + 2), .ref 1000, .int (xs ((x3 + 1)).toNatClampNeg), .ref 0], qMM mc mm lm)) rfl ?_
        obtain ⟨hb40, h⟩ := q_cd h
        refine q_ev_chk (b := q_in (x3 + 2) Ln) hb40 (S' := (249, [some (.ref 1000), some (.ref 0), some (.ref 56), some (.int x3)], [.int (xs ((x3 + 2)).toNatClampNeg), .int (xs ((x3 + 1)).toNatClampNeg), .ref 0], qMM mc mm lm)) rfl ?_
        obtain ⟨r41, hf42, h⟩ := Option.bind_eq_some_iff.mp h
        try dsimp only at h
        refine q_ev_call (S' := (252, [some (.ref 1000), some (.ref 0), some (.ref 56), some (.int x3)], [], qMM mc mm lm)) rfl (by omega) (T_AT_way (by first | omega | decide) hf42) ?_
        refine q_ev_eq (S' := (252, [some (.ref 1000), some (.ref 0), some (.ref 56), some (.int x3)], [.int r41], qMM mc mm lm)) rfl ?_
        refine q_ev_run 5 (S' := (257, [some (.ref 1000), some (.ref 0), some (.ref 56), some (.int x3)], [.int (x3 + 1), .ref 1000, .ref 56, .int r41], qMM mc mm lm)) rfl ?_
        obtain ⟨hb43, h⟩ := q_cd h
        refine q_ev_chk (b := q_in (x3 + 1) Ln) hb43 (S' := (258, [some (.ref 1000), some (.ref 0), some (.ref 56), some (.int x3)], [.int (xs ((x3 + 1)).toNatClampNeg), .ref 56, .int r41], qMM mc mm lm)) rfl ?_
        refine q_ev_run 4 (S' := (262, [some (.ref 1000), some (.ref 0), some (.ref 56), some (.int x3)], [.int (x3 + 2), .ref 1000, .int (xs ((x3 + 1)).toNatClampNeg), .ref 56, .int r41], qMM mc mm lm)) rfl ?_
        obtain ⟨hb44, h⟩ := q_cd h
        refine q_ev_chk (b := q_in (x3 + 2) Ln) hb44 (S' := (263, [some (.ref 1000), some (.ref 0), some (.ref 56), some (.int x3)], [.int (xs ((x3 + 2)).toNatClampNeg), .int (xs ((x3 + 1)).toNatClampNeg), .ref 56, .int r41], qMM mc mm lm)) rfl ?_
        obtain ⟨r45, hf46, h⟩ := Option.bind_eq_some_iff.mp h
        try dsimp only at h
        refine q_ev_call (S' := (266, [some (.ref 1000), some (.ref 0), some (.ref 56), some (.int x3)], [.int r41], qMM mc mm lm)) rfl (by omega) (T_Mo_way (by first | omega | decide) hf46) ?_
        refine q_ev_eq (S' := (266, [some (.ref 1000), some (.ref 0), some (.ref 56), some (.int x3)], [.int r45, .int r41], qMM mc mm lm)) rfl ?_
        by_cases hc47 : r41 = r45
        · rw [if_pos hc47] at h
          refine q_ev_brT hc47 (a := 839) (b := 269) rfl ?_
          refine q_ev_run 2 (S' := (18, [some (.ref 1000), some (.ref 0), some (.ref 56), some (.int (x3 + 5))], [], qMM mc mm lm)) rfl ?_
          exact ih mc mm lm (x3 + 5) _ h hr hk
        · rw [if_neg hc47] at h
          refine q_ev_brF hc47 (a := 839) (b := 269) rfl ?_
          refine q_ev_run 1 (S' := (270, [some (.ref 1000), some (.ref 0), some (.ref 56), some (.int x3)], [.int 0], qMM mc mm lm)) rfl ?_
          obtain rfl := (Option.some.inj h).symm
          rw [hr _ _ _ _ rfl]
          exact q_ev_ret rfl rfl
      rw [if_neg hc48] at h
      by_cases hc56 : (xs x3.toNatClampNeg &&& 31) = 5
      · rw [if_pos hc56] at h
        refine q_ev_sw (v := 271) (a := 271) (show q_sw (xs x3.toNatClampNeg &&& 31) 839 0 [156, 179, 192, 205, 238, 271, 294, 317, 350, 403, 436, 449, 482, 505, 518, 541, 584, 617, 630, 643, 666, 689, 723, 756, 779, 802, 825] = 271 by rw [hc56]; rfl) rfl rfl ?_
        refine q_ev_run 5 (S' := (276, [some (.ref 1000), some (.ref 0), some (.ref 56), some (.int x3)], [.int (x3 + 1), .ref 1000, .ref 0], qMM mc mm lm)) rfl ?_
        obtain ⟨hb49, h⟩ := q_cd h
        refine q_ev_chk (b := q_in (x3 + 1) Ln) hb49 (S' := (277, [some (.ref 1000), some (.ref 0), some (.ref 56), some (.int x3)], [.int (xs ((x3 + 1)).toNatClampNeg), .ref 0], qMM mc mm lm)) rfl ?_
        obtain ⟨r50, hf51, h⟩ := Option.bind_eq_some_iff.mp h
        try dsimp only at h
        refine q_ev_call (S' := (280, [some (.ref 1000), some (.ref 0), some (.ref 56), some (.int x3)], [], qMM mc mm lm)) rfl (by omega) (T_AT_sights (by first | omega | decide) hf51) ?_
        refine q_ev_eq (S' := (280, [some (.ref 1000), some (.ref 0), some (.ref 56), some (.int x3)], [.int r50], qMM mc mm lm)) rfl ?_
        refine q_ev_run 5 (S' := (285, [some (.ref 1000), some (.ref 0), some (.ref 56), some (.int x3)], [.int (x3 + 1), .ref 1000, .ref 56, .int r50], qMM mc mm lm)) rfl ?_
        obtain ⟨hb52, h⟩ := q_cd h
        refine q_ev_chk (b := q_in (x3 + 1) Ln) hb52 (S' := (286, [some (.ref 1000), some (.ref 0), some (.ref 56), some (.int x3)], [.int (xs ((x3 + 1)).toNatClampNeg), .ref 56, .int r50], qMM mc mm lm)) rfl ?_
        obtain ⟨r53, hf54, h⟩ := Option.bind_eq_some_iff.mp h
        try dsimp only at h
        refine q_ev_call (S' := (289, [some (.ref 1000), some (.ref 0), some (.ref 56), some (.int x3)], [.int r50], qMM mc mm lm)) rfl (by omega) (T_Mo_sights (by first | omega | decide) hf54) ?_
        refine q_ev_eq (S' := (289, [some (.ref 1000), some (.ref 0), some (.ref 56), some (.int x3)], [.int r53, .int r50], qMM mc mm lm)) rfl ?_
        by_cases hc55 : r50 = r53
        · rw [if_pos hc55] at h
          refine q_ev_brT hc55 (a := 839) (b := 292) rfl ?_
          refine q_ev_run 2 (S' := (18, [some (.ref 1000), some (.ref 0), some (.ref 56), some (.int (x3 + 5))], [], qMM mc mm lm)) rfl ?_
          exact ih mc mm lm (x3 + 5) _ h hr hk
        · rw [if_neg hc55] at h
          refine q_ev_brF hc55 (a := 839) (b := 292) rfl ?_
          refine q_ev_run 1 (S' := (293, [some (.ref 1000), some (.ref 0), some (.ref 56), some (.int x3)], [.int 0], qMM mc mm lm)) rfl ?_
          obtain rfl := (Option.some.inj h).symm
          rw [hr _ _ _ _ rfl]
          exact q_ev_ret rfl rfl
      rw [if_neg hc56] at h
      by_cases hc64 : (xs x3.toNatClampNeg &&& 31) = 6
      · rw [if_pos hc64] at h
        refine q_ev_sw (v := 294) (a := 294) (show q_sw (xs x3.toNatClampNeg &&& 31) 839 0 [156, 179, 192, 205, 238, 271, 294, 317, 350, 403, 436, 449, 482, 505, 518, 541, 584, 617, 630, 643, 666, 689, 723, 756, 779, 802, 825] = 294 by rw [hc64]; rfl) rfl rfl ?_
        refine q_ev_run 5 (S' := (299, [some (.ref 1000), some (.ref 0), some (.ref 56), some (.int x3)], [.int (x3 + 1), .ref 1000, .ref 0], qMM mc mm lm)) rfl ?_
        obtain ⟨hb57, h⟩ := q_cd h
        refine q_ev_chk (b := q_in (x3 + 1) Ln) hb57 (S' := (300, [some (.ref 1000), some (.ref 0), some (.ref 56), some (.int x3)], [.int (xs ((x3 + 1)).toNatClampNeg), .ref 0], qMM mc mm lm)) rfl ?_
        obtain ⟨r58, hf59, h⟩ := Option.bind_eq_some_iff.mp h
        try dsimp only at h
        refine q_ev_call (S' := (303, [some (.ref 1000), some (.ref 0), some (.ref 56), some (.int x3)], [], qMM mc mm lm)) rfl (by omega) (T_AT_hedgehog (by first | omega | decide) hf59) ?_
        refine q_ev_eq (S' := (303, [some (.ref 1000), some (.ref 0), some (.ref 56), some (.int x3)], [.int r58], qMM mc mm lm)) rfl ?_
        refine q_ev_run 5 (S' := (308, [some (.ref 1000), some (.ref 0), some (.ref 56), some (.int x3)], [.int (x3 + 1), .ref 1000, .ref 56, .int r58], qMM mc mm lm)) rfl ?_
        obtain ⟨hb60, h⟩ := q_cd h
        refine q_ev_chk (b := q_in (x3 + 1) Ln) hb60 (S' := (309, [some (.ref 1000), some (.ref 0), some (.ref 56), some (.int x3)], [.int (xs ((x3 + 1)).toNatClampNeg), .ref 56, .int r58], qMM mc mm lm)) rfl ?_
        obtain ⟨r61, hf62, h⟩ := Option.bind_eq_some_iff.mp h
        try dsimp only at h
        refine q_ev_call (S' := (312, [some (.ref 1000), some (.ref 0), some (.ref 56), some (.int x3)], [.int r58], qMM mc mm lm)) rfl (by omega) (T_Mo_hedgehog (by first | omega | decide) hf62) ?_
        refine q_ev_eq (S' := (312, [some (.ref 1000), some (.ref 0), some (.ref 56), some (.int x3)], [.int r61, .int r58], qMM mc mm lm)) rfl ?_
        by_cases hc63 : r58 = r61
        · rw [if_pos hc63] at h
          refine q_ev_brT hc63 (a := 839) (b := 315) rfl ?_
          refine q_ev_run 2 (S' := (18, [some (.ref 1000), some (.ref 0), some (.ref 56), some (.int (x3 + 5))], [], qMM mc mm lm)) rfl ?_
          exact ih mc mm lm (x3 + 5) _ h hr hk
        · rw [if_neg hc63] at h
          refine q_ev_brF hc63 (a := 839) (b := 315) rfl ?_
          refine q_ev_run 1 (S' := (316, [some (.ref 1000), some (.ref 0), some (.ref 56), some (.int x3)], [.int 0], qMM mc mm lm)) rfl ?_
          obtain rfl := (Option.some.inj h).symm
          rw [hr _ _ _ _ rfl]
          exact q_ev_ret rfl rfl
      rw [if_neg hc64] at h
      by_cases hc74 : (xs x3.toNatClampNeg &&& 31) = 7
      · rw [if_pos hc74] at h
        refine q_ev_sw (v := 317) (a := 317) (show q_sw (xs x3.toNatClampNeg &&& 31) 839 0 [156, 179, 192, 205, 238, 271, 294, 317, 350, 403, 436, 449, 482, 505, 518, 541, 584, 617, 630, 643, 666, 689, 723, 756, 779, 802, 825] = 317 by rw [hc74]; rfl) rfl rfl ?_
        refine q_ev_run 5 (S' := (322, [some (.ref 1000), some (.ref 0), some (.ref 56), some (.int x3)], [.int (x3 + 1), .ref 1000, .ref 0], qMM mc mm lm)) rfl ?_
        obtain ⟨hb65, h⟩ := q_cd h
        refine q_ev_chk (b := q_in (x3 + 1) Ln) hb65 (S' := (323, [some (.ref 1000), some (.ref 0), some (.ref 56), some (.int x3)], [.int (xs ((x3 + 1)).toNatClampNeg), .ref 0], qMM mc mm lm)) rfl ?_
        refine q_ev_run 4 (S' := (327, [some (.ref 1000), some (.ref 0), some (.ref 56), some (.int x3)], [.int (x3 + 2), .ref 1000, .int (xs ((x3 + 1)).toNatClampNeg), .ref 0], qMM mc mm lm)) rfl ?_
        obtain ⟨hb66, h⟩ := q_cd h
        refine q_ev_chk (b := q_in (x3 + 2) Ln) hb66 (S' := (328, [some (.ref 1000), some (.ref 0), some (.ref 56), some (.int x3)], [.int (xs ((x3 + 2)).toNatClampNeg), .int (xs ((x3 + 1)).toNatClampNeg), .ref 0], qMM mc mm lm)) rfl ?_
        obtain ⟨r67, hf68, h⟩ := Option.bind_eq_some_iff.mp h
        try dsimp only at h
        refine q_ev_call (S' := (331, [some (.ref 1000), some (.ref 0), some (.ref 56), some (.int x3)], [], qMM mc mm lm)) rfl (by omega) (T_AT_point (by first | omega | decide) hf68) ?_
        refine q_ev_eq (S' := (331, [some (.ref 1000), some (.ref 0), some (.ref 56), some (.int x3)], [.int r67], qMM mc mm lm)) rfl ?_
        refine q_ev_run 5 (S' := (336, [some (.ref 1000), some (.ref 0), some (.ref 56), some (.int x3)], [.int (x3 + 1), .ref 1000, .ref 56, .int r67], qMM mc mm lm)) rfl ?_
        obtain ⟨hb69, h⟩ := q_cd h
        refine q_ev_chk (b := q_in (x3 + 1) Ln) hb69 (S' := (337, [some (.ref 1000), some (.ref 0), some (.ref 56), some (.int x3)], [.int (xs ((x3 + 1)).toNatClampNeg), .ref 56, .int r67], qMM mc mm lm)) rfl ?_
        refine q_ev_run 4 (S' := (341, [some (.ref 1000), some (.ref 0), some (.ref 56), some (.int x3)], [.int (x3 + 2), .ref 1000, .int (xs ((x3 + 1)).toNatClampNeg), .ref 56, .int r67], qMM mc mm lm)) rfl ?_
        obtain ⟨hb70, h⟩ := q_cd h
        refine q_ev_chk (b := q_in (x3 + 2) Ln) hb70 (S' := (342, [some (.ref 1000), some (.ref 0), some (.ref 56), some (.int x3)], [.int (xs ((x3 + 2)).toNatClampNeg), .int (xs ((x3 + 1)).toNatClampNeg), .ref 56, .int r67], qMM mc mm lm)) rfl ?_
        obtain ⟨r71, hf72, h⟩ := Option.bind_eq_some_iff.mp h
        try dsimp only at h
        refine q_ev_call (S' := (345, [some (.ref 1000), some (.ref 0), some (.ref 56), some (.int x3)], [.int r67], qMM mc mm lm)) rfl (by omega) (T_Mo_point (by first | omega | decide) hf72) ?_
        refine q_ev_eq (S' := (345, [some (.ref 1000), some (.ref 0), some (.ref 56), some (.int x3)], [.int r71, .int r67], qMM mc mm lm)) rfl ?_
        by_cases hc73 : r67 = r71
        · rw [if_pos hc73] at h
          refine q_ev_brT hc73 (a := 839) (b := 348) rfl ?_
          refine q_ev_run 2 (S' := (18, [some (.ref 1000), some (.ref 0), some (.ref 56), some (.int (x3 + 5))], [], qMM mc mm lm)) rfl ?_
          exact ih mc mm lm (x3 + 5) _ h hr hk
        · rw [if_neg hc73] at h
          refine q_ev_brF hc73 (a := 839) (b := 348) rfl ?_
          refine q_ev_run 1 (S' := (349, [some (.ref 1000), some (.ref 0), some (.ref 56), some (.int x3)], [.int 0], qMM mc mm lm)) rfl ?_
          obtain rfl := (Option.some.inj h).symm
          rw [hr _ _ _ _ rfl]
          exact q_ev_ret rfl rfl
      rw [if_neg hc74] at h
      by_cases hc90 : (xs x3.toNatClampNeg &&& 31) = 8
      · rw [if_pos hc90] at h
        refine q_ev_sw (v := 350) (a := 350) (show q_sw (xs x3.toNatClampNeg &&& 31) 839 0 [156, 179, 192, 205, 238, 271, 294, 317, 350, 403, 436, 449, 482, 505, 518, 541, 584, 617, 630, 643, 666, 689, 723, 756, 779, 802, 825] = 350 by rw [hc90]; rfl) rfl rfl ?_
        refine q_ev_run 5 (S' := (355, [some (.ref 1000), some (.ref 0), some (.ref 56), some (.int x3)], [.int (x3 + 1), .ref 1000, .ref 0], qMM mc mm lm)) rfl ?_
        obtain ⟨hb75, h⟩ := q_cd h
        refine q_ev_chk (b := q_in (x3 + 1) Ln) hb75 (S' := (356, [some (.ref 1000), some (.ref 0), some (.ref 56), some (.int x3)], [.int (xs ((x3 + 1)).toNatClampNeg), .ref 0], qMM mc mm lm)) rfl ?_
        refine q_ev_run 4 (S' := (360, [some (.ref 1000), some (.ref 0), some (.ref 56), some (.int x3)], [.int (x3 + 2), .ref 1000, .int (xs ((x3 + 1)).toNatClampNeg), .ref 0], qMM mc mm lm)) rfl ?_
        obtain ⟨hb76, h⟩ := q_cd h
        refine q_ev_chk (b := q_in (x3 + 2) Ln) hb76 (S' := (361, [some (.ref 1000), some (.ref 0), some (.ref 56), some (.int x3)], [.int (xs ((x3 + 2)).toNatClampNeg), .int (xs ((x3 + 1)).toNatClampNeg), .ref 0], qMM mc mm lm)) rfl ?_
        refine q_ev_run 4 (S' := (365, [some (.ref 1000), some (.ref 0), some (.ref 56), some (.int x3)], [.int (x3 + 3), .ref 1000, .int (xs ((x3 + 2)).toNatClampNeg), .int (xs ((x3 + 1)).toNatClampNeg), .ref 0], qMM mc mm lm)) rfl ?_
        obtain ⟨hb77, h⟩ := q_cd h
        refine q_ev_chk (b := q_in (x3 + 3) Ln) hb77 (S' := (366, [some (.ref 1000), some (.ref 0), some (.ref 56), some (.int x3)], [.int (xs ((x3 + 3)).toNatClampNeg), .int (xs ((x3 + 2)).toNatClampNeg), .int (xs ((x3 + 1)).toNatClampNeg), .ref 0], qMM mc mm lm)) rfl ?_
        refine q_ev_run 4 (S' := (370, [some (.ref 1000), some (.ref 0), some (.ref 56), some (.int x3)], [.int (x3 + 4), .ref 1000, .int (xs ((x3 + 3)).toNatClampNeg), .int (xs ((x3 + 2)).toNatClampNeg), .int (xs ((x3 + 1)).toNatClampNeg), .ref 0], qMM mc mm lm)) rfl ?_
        obtain ⟨hb78, h⟩ := q_cd h
        refine q_ev_chk (b := q_in (x3 + 4) Ln) hb78 (S' := (371, [some (.ref 1000), some (.ref 0), some (.ref 56), some (.int x3)], [.int (xs ((x3 + 4)).toNatClampNeg), .int (xs ((x3 + 3)).toNatClampNeg), .int (xs ((x3 + 2)).toNatClampNeg), .int (xs ((x3 + 1)).toNatClampNeg), .ref 0], qMM mc mm lm)) rfl ?_
        obtain ⟨⟨r79, m80⟩, hf81, h⟩ := Option.bind_eq_some_iff.mp h
        try dsimp only at h
        refine q_ev_call (S' := (374, [some (.ref 1000), some (.ref 0), some (.ref 56), some (.int x3)], [], qMM mc mm lm)) rfl (by omega) (T_AT_sits (by first | omega | decide) hf81) ?_
        refine q_ev_eq (S' := (374, [some (.ref 1000), some (.ref 0), some (.ref 56), some (.int x3)], [.int r79], qMM m80 mm lm)) rfl ?_
        refine q_ev_run 5 (S' := (379, [some (.ref 1000), some (.ref 0), some (.ref 56), some (.int x3)], [.int (x3 + 1), .ref 1000, .ref 56, .int r79], qMM m80 mm lm)) rfl ?_
        obtain ⟨hb82, h⟩ := q_cd h
        refine q_ev_chk (b := q_in (x3 + 1) Ln) hb82 (S' := (380, [some (.ref 1000), some (.ref 0), some (.ref 56), some (.int x3)], [.int (xs ((x3 + 1)).toNatClampNeg), .ref 56, .int r79], qMM m80 mm lm)) rfl ?_
        refine q_ev_run 4 (S' := (384, [some (.ref 1000), some (.ref 0), some (.ref 56), some (.int x3)], [.int (x3 + 2), .ref 1000, .int (xs ((x3 + 1)).toNatClampNeg), .ref 56, .int r79], qMM m80 mm lm)) rfl ?_
        obtain ⟨hb83, h⟩ := q_cd h
        refine q_ev_chk (b := q_in (x3 + 2) Ln) hb83 (S' := (385, [some (.ref 1000), some (.ref 0), some (.ref 56), some (.int x3)], [.int (xs ((x3 + 2)).toNatClampNeg), .int (xs ((x3 + 1)).toNatClampNeg), .ref 56, .int r79], qMM m80 mm lm)) rfl ?_
        refine q_ev_run 4 (S' := (389, [some (.ref 1000), some (.ref 0), some (.ref 56), some (.int x3)], [.int (x3 + 3), .ref 1000, .int (xs ((x3 + 2)).toNatClampNeg), .int (xs ((x3 + 1)).toNatClampNeg), .ref 56, .int r79], qMM m80 mm lm)) rfl ?_
        obtain ⟨hb84, h⟩ := q_cd h
        refine q_ev_chk (b := q_in (x3 + 3) Ln) hb84 (S' := (390, [some (.ref 1000), some (.ref 0), some (.ref 56), some (.int x3)], [.int (xs ((x3 + 3)).toNatClampNeg), .int (xs ((x3 + 2)).toNatClampNeg), .int (xs ((x3 + 1)).toNatClampNeg), .ref 56, .int r79], qMM m80 mm lm)) rfl ?_
        refine q_ev_run 4 (S' := (394, [some (.ref 1000), some (.ref 0), some (.ref 56), some (.int x3)], [.int (x3 + 4), .ref 1000, .int (xs ((x3 + 3)).toNatClampNeg), .int (xs ((x3 + 2)).toNatClampNeg), .int (xs ((x3 + 1)).toNatClampNeg), .ref 56, .int r79], qMM m80 mm lm)) rfl ?_
        obtain ⟨hb85, h⟩ := q_cd h
        refine q_ev_chk (b := q_in (x3 + 4) Ln) hb85 (S' := (395, [some (.ref 1000), some (.ref 0), some (.ref 56), some (.int x3)], [.int (xs ((x3 + 4)).toNatClampNeg), .int (xs ((x3 + 3)).toNatClampNeg), .int (xs ((x3 + 2)).toNatClampNeg), .int (xs ((x3 + 1)).toNatClampNeg), .ref 56, .int r79], qMM m80 mm lm)) rfl ?_
        obtain ⟨⟨r86, m87⟩, hf88, h⟩ := Option.bind_eq_some_iff.mp h
        try dsimp only at h
        refine q_ev_call (S' := (398, [some (.ref 1000), some (.ref 0), some (.ref 56), some (.int x3)], [.int r79], qMM m80 mm lm)) rfl (by omega) (T_Mo_sits (by first | omega | decide) hf88) ?_
        refine q_ev_eq (S' := (398, [some (.ref 1000), some (.ref 0), some (.ref 56), some (.int x3)], [.int r86, .int r79], qMM m80 m87 lm)) rfl ?_
        by_cases hc89 : r79 = r86
        · rw [if_pos hc89] at h
          refine q_ev_brT hc89 (a := 839) (b := 401) rfl ?_
          refine q_ev_run 2 (S' := (18, [some (.ref 1000), some (.ref 0), some (.ref 56), some (.int (x3 + 5))], [], qMM m80 m87 lm)) rfl ?_
          exact ih m80 m87 lm (x3 + 5) _ h hr hk
        · rw [if_neg hc89] at h
          refine q_ev_brF hc89 (a := 839) (b := 401) rfl ?_
          refine q_ev_run 1 (S' := (402, [some (.ref 1000), some (.ref 0), some (.ref 56), some (.int x3)], [.int 0], qMM m80 m87 lm)) rfl ?_
          obtain rfl := (Option.some.inj h).symm
          rw [hr _ _ _ _ rfl]
          exact q_ev_ret rfl rfl
      rw [if_neg hc90] at h
      by_cases hc102 : (xs x3.toNatClampNeg &&& 31) = 9
      · rw [if_pos hc102] at h
        refine q_ev_sw (v := 403) (a := 403) (show q_sw (xs x3.toNatClampNeg &&& 31) 839 0 [156, 179, 192, 205, 238, 271, 294, 317, 350, 403, 436, 449, 482, 505, 518, 541, 584, 617, 630, 643, 666, 689, 723, 756, 779, 802, 825] = 403 by rw [hc102]; rfl) rfl rfl ?_
        refine q_ev_run 5 (S' := (408, [some (.ref 1000), some (.ref 0), some (.ref 56), some (.int x3)], [.int (x3 + 1), .ref 1000, .ref 0], qMM mc mm lm)) rfl ?_
        obtain ⟨hb91, h⟩ := q_cd h
        refine q_ev_chk (b := q_in (x3 + 1) Ln) hb91 (S' := (409, [some (.ref 1000), some (.ref 0), some (.ref 56), some (.int x3)], [.int (xs ((x3 + 1)).toNatClampNeg), .ref 0], qMM mc mm lm)) rfl ?_
        refine q_ev_run 4 (S' := (413, [some (.ref 1000), some (.ref 0), some (.ref 56), some (.int x3)], [.int (x3 + 2), .ref 1000, .int (xs ((x3 + 1)).toNatClampNeg), .ref 0], qMM mc mm lm)) rfl ?_
        obtain ⟨hb92, h⟩ := q_cd h
        refine q_ev_chk (b := q_in (x3 + 2) Ln) hb92 (S' := (414, [some (.ref 1000), some (.ref 0), some (.ref 56), some (.int x3)], [.int (xs ((x3 + 2)).toNatClampNeg), .int (xs ((x3 + 1)).toNatClampNeg), .ref 0], qMM mc mm lm)) rfl ?_
        obtain ⟨⟨r93, m94⟩, hf95, h⟩ := Option.bind_eq_some_iff.mp h
        try dsimp only at h
        refine q_ev_call (S' := (417, [some (.ref 1000), some (.ref 0), some (.ref 56), some (.int x3)], [], qMM mc mm lm)) rfl (by omega) (T_AT_waits (by first | omega | decide) hf95) ?_
        refine q_ev_eq (S' := (417, [some (.ref 1000), some (.ref 0), some (.ref 56), some (.int x3)], [.int r93], qMM m94 mm lm)) rfl ?_
        refine q_ev_run 5 (S' := (422, [some (.ref 1000), some (.ref 0), some (.ref 56), some (.int x3)], [.int (x3 + 1), .ref 1000, .ref 56, .int r93], qMM m94 mm lm)) rfl ?_
        obtain ⟨hb96, h⟩ := q_cd h
        refine q_ev_chk (b := q_in (x3 + 1) Ln) hb96 (S' := (423, [some (.ref 1000), some (.ref 0), some (.ref 56), some (.int x3)], [.int (xs ((x3 + 1)).toNatClampNeg), .ref 56, .int r93], qMM m94 mm lm)) rfl ?_
        refine q_ev_run 4 (S' := (427, [some (.ref 1000), some (.ref 0), some (.ref 56), some (.int x3)], [.int (x3 + 2), .ref 1000, .int (xs ((x3 + 1)).toNatClampNeg), .ref 56, .int r93], qMM m94 mm lm)) rfl ?_
        obtain ⟨hb97, h⟩ := q_cd h
        refine q_ev_chk (b := q_in (x3 + 2) Ln) hb97 (S' := (428, [some (.ref 1000), some (.ref 0), some (.ref 56), some (.int x3)], [.int (xs ((x3 + 2)).toNatClampNeg), .int (xs ((x3 + 1)).toNatClampNeg), .ref 56, .int r93], qMM m94 mm lm)) rfl ?_
        obtain ⟨⟨r98, m99⟩, hf100, h⟩ := Option.bind_eq_some_iff.mp h
        try dsimp only at h
        refine q_ev_call (S' := (431, [some (.ref 1000), some (.ref 0), some (.ref 56), some (.int x3)], [.int r93], qMM m94 mm lm)) rfl (by omega) (T_Mo_waits (by first | omega | decide) hf100) ?_
        refine q_ev_eq (S' := (431, [some (.ref 1000), some (.ref 0), some (.ref 56), some (.int x3)], [.int r98, .int r93], qMM m94 m99 lm)) rfl ?_
        by_cases hc101 : r93 = r98
        · rw [if_pos hc101] at h
          refine q_ev_brT hc101 (a := 839) (b := 434) rfl ?_
          refine q_ev_run 2 (S' := (18, [some (.ref 1000), some (.ref 0), some (.ref 56), some (.int (x3 + 5))], [], qMM m94 m99 lm)) rfl ?_
          exact ih m94 m99 lm (x3 + 5) _ h hr hk
        · rw [if_neg hc101] at h
          refine q_ev_brF hc101 (a := 839) (b := 434) rfl ?_
          refine q_ev_run 1 (S' := (435, [some (.ref 1000), some (.ref 0), some (.ref 56), some (.int x3)], [.int 0], qMM m94 m99 lm)) rfl ?_
          obtain rfl := (Option.some.inj h).symm
          rw [hr _ _ _ _ rfl]
          exact q_ev_ret rfl rfl
      rw [if_neg hc102] at h
      by_cases hc110 : (xs x3.toNatClampNeg &&& 31) = 10
      · rw [if_pos hc110] at h
        refine q_ev_sw (v := 436) (a := 436) (show q_sw (xs x3.toNatClampNeg &&& 31) 839 0 [156, 179, 192, 205, 238, 271, 294, 317, 350, 403, 436, 449, 482, 505, 518, 541, 584, 617, 630, 643, 666, 689, 723, 756, 779, 802, 825] = 436 by rw [hc110]; rfl) rfl rfl ?_
        refine q_ev_run 1 (S' := (437, [some (.ref 1000), some (.ref 0), some (.ref 56), some (.int x3)], [.ref 0], qMM mc mm lm)) rfl ?_
        obtain ⟨⟨r103, m104⟩, hf105, h⟩ := Option.bind_eq_some_iff.mp h
        try dsimp only at h
        refine q_ev_call (S' := (440, [some (.ref 1000), some (.ref 0), some (.ref 56), some (.int x3)], [], qMM mc mm lm)) rfl (by omega) (T_AT_undo (by first | omega | decide) hf105) ?_
        refine q_ev_eq (S' := (440, [some (.ref 1000), some (.ref 0), some (.ref 56), some (.int x3)], [.int r103], qMM m104 mm lm)) rfl ?_
        refine q_ev_run 1 (S' := (441, [some (.ref 1000), some (.ref 0), some (.ref 56), some (.int x3)], [.ref 56, .int r103], qMM m104 mm lm)) rfl ?_
        obtain ⟨⟨r106, m107⟩, hf108, h⟩ := Option.bind_eq_some_iff.mp h
        try dsimp only at h
        refine q_ev_call (S' := (444, [some (.ref 1000), some (.ref 0), some (.ref 56), some (.int x3)], [.int r103], qMM m104 mm lm)) rfl (by omega) (T_Mo_undo (by first | omega | decide) hf108) ?_
        refine q_ev_eq (S' := (444, [some (.ref 1000), some (.ref 0), some (.ref 56), some (.int x3)], [.int r106, .int r103], qMM m104 m107 lm)) rfl ?_
        by_cases hc109 : r103 = r106
        · rw [if_pos hc109] at h
          refine q_ev_brT hc109 (a := 839) (b := 447) rfl ?_
          refine q_ev_run 2 (S' := (18, [some (.ref 1000), some (.ref 0), some (.ref 56), some (.int (x3 + 5))], [], qMM m104 m107 lm)) rfl ?_
          exact ih m104 m107 lm (x3 + 5) _ h hr hk
        · rw [if_neg hc109] at h
          refine q_ev_brF hc109 (a := 839) (b := 447) rfl ?_
          refine q_ev_run 1 (S' := (448, [some (.ref 1000), some (.ref 0), some (.ref 56), some (.int x3)], [.int 0], qMM m104 m107 lm)) rfl ?_
          obtain rfl := (Option.some.inj h).symm
          rw [hr _ _ _ _ rfl]
          exact q_ev_ret rfl rfl
      rw [if_neg hc110] at h
      by_cases hc120 : (xs x3.toNatClampNeg &&& 31) = 11
      · rw [if_pos hc120] at h
        refine q_ev_sw (v := 449) (a := 449) (show q_sw (xs x3.toNatClampNeg &&& 31) 839 0 [156, 179, 192, 205, 238, 271, 294, 317, 350, 403, 436, 449, 482, 505, 518, 541, 584, 617, 630, 643, 666, 689, 723, 756, 779, 802, 825] = 449 by rw [hc120]; rfl) rfl rfl ?_
        refine q_ev_run 5 (S' := (454, [some (.ref 1000), some (.ref 0), some (.ref 56), some (.int x3)], [.int (x3 + 1), .ref 1000, .ref 0], qMM mc mm lm)) rfl ?_
        obtain ⟨hb111, h⟩ := q_cd h
        refine q_ev_chk (b := q_in (x3 + 1) Ln) hb111 (S' := (455, [some (.ref 1000), some (.ref 0), some (.ref 56), some (.int x3)], [.int (xs ((x3 + 1)).toNatClampNeg), .ref 0], qMM mc mm lm)) rfl ?_
        refine q_ev_run 4 (S' := (459, [some (.ref 1000), some (.ref 0), some (.ref 56), some (.int x3)], [.int (x3 + 2), .ref 1000, .int (xs ((x3 + 1)).toNatClampNeg), .ref 0], qMM mc mm lm)) rfl ?_
        obtain ⟨hb112, h⟩ := q_cd h
        refine q_ev_chk (b := q_in (x3 + 2) Ln) hb112 (S' := (460, [some (.ref 1000), some (.ref 0), some (.ref 56), some (.int x3)], [.int (xs ((x3 + 2)).toNatClampNeg), .int (xs ((x3 + 1)).toNatClampNeg), .ref 0], qMM mc mm lm)) rfl ?_
        obtain ⟨r113, hf114, h⟩ := Option.bind_eq_some_iff.mp h
        try dsimp only at h
        refine q_ev_call (S' := (463, [some (.ref 1000), some (.ref 0), some (.ref 56), some (.int x3)], [], qMM mc mm lm)) rfl (by omega) (T_AT_sat (by first | omega | decide) hf114) ?_
        refine q_ev_eq (S' := (463, [some (.ref 1000), some (.ref 0), some (.ref 56), some (.int x3)], [.int r113], qMM mc mm lm)) rfl ?_
        refine q_ev_run 5 (S' := (468, [some (.ref 1000), some (.ref 0), some (.ref 56), some (.int x3)], [.int (x3 + 1), .ref 1000, .ref 56, .int r113], qMM mc mm lm)) rfl ?_
        obtain ⟨hb115, h⟩ := q_cd h
        refine q_ev_chk (b := q_in (x3 + 1) Ln) hb115 (S' := (469, [some (.ref 1000), some (.ref 0), some (.ref 56), some (.int x3)], [.int (xs ((x3 + 1)).toNatClampNeg), .ref 56, .int r113], qMM mc mm lm)) rfl ?_
        refine q_ev_run 4 (S' := (473, [some (.ref 1000), some (.ref 0), some (.ref 56), some (.int x3)], [.int (x3 + 2), .ref 1000, .int (xs ((x3 + 1)).toNatClampNeg), .ref 56, .int r113], qMM mc mm lm)) rfl ?_
        obtain ⟨hb116, h⟩ := q_cd h
        refine q_ev_chk (b := q_in (x3 + 2) Ln) hb116 (S' := (474, [some (.ref 1000), some (.ref 0), some (.ref 56), some (.int x3)], [.int (xs ((x3 + 2)).toNatClampNeg), .int (xs ((x3 + 1)).toNatClampNeg), .ref 56, .int r113], qMM mc mm lm)) rfl ?_
        obtain ⟨r117, hf118, h⟩ := Option.bind_eq_some_iff.mp h
        try dsimp only at h
        refine q_ev_call (S' := (477, [some (.ref 1000), some (.ref 0), some (.ref 56), some (.int x3)], [.int r113], qMM mc mm lm)) rfl (by omega) (T_Mo_sat (by first | omega | decide) hf118) ?_
        refine q_ev_eq (S' := (477, [some (.ref 1000), some (.ref 0), some (.ref 56), some (.int x3)], [.int r117, .int r113], qMM mc mm lm)) rfl ?_
        by_cases hc119 : r113 = r117
        · rw [if_pos hc119] at h
          refine q_ev_brT hc119 (a := 839) (b := 480) rfl ?_
          refine q_ev_run 2 (S' := (18, [some (.ref 1000), some (.ref 0), some (.ref 56), some (.int (x3 + 5))], [], qMM mc mm lm)) rfl ?_
          exact ih mc mm lm (x3 + 5) _ h hr hk
        · rw [if_neg hc119] at h
          refine q_ev_brF hc119 (a := 839) (b := 480) rfl ?_
          refine q_ev_run 1 (S' := (481, [some (.ref 1000), some (.ref 0), some (.ref 56), some (.int x3)], [.int 0], qMM mc mm lm)) rfl ?_
          obtain rfl := (Option.some.inj h).symm
          rw [hr _ _ _ _ rfl]
          exact q_ev_ret rfl rfl
      rw [if_neg hc120] at h
      by_cases hc128 : (xs x3.toNatClampNeg &&& 31) = 12
      · rw [if_pos hc128] at h
        refine q_ev_sw (v := 482) (a := 482) (show q_sw (xs x3.toNatClampNeg &&& 31) 839 0 [156, 179, 192, 205, 238, 271, 294, 317, 350, 403, 436, 449, 482, 505, 518, 541, 584, 617, 630, 643, 666, 689, 723, 756, 779, 802, 825] = 482 by rw [hc128]; rfl) rfl rfl ?_
        refine q_ev_run 5 (S' := (487, [some (.ref 1000), some (.ref 0), some (.ref 56), some (.int x3)], [.int (x3 + 1), .ref 1000, .ref 0], qMM mc mm lm)) rfl ?_
        obtain ⟨hb121, h⟩ := q_cd h
        refine q_ev_chk (b := q_in (x3 + 1) Ln) hb121 (S' := (488, [some (.ref 1000), some (.ref 0), some (.ref 56), some (.int x3)], [.int (xs ((x3 + 1)).toNatClampNeg), .ref 0], qMM mc mm lm)) rfl ?_
        obtain ⟨r122, hf123, h⟩ := Option.bind_eq_some_iff.mp h
        try dsimp only at h
        refine q_ev_call (S' := (491, [some (.ref 1000), some (.ref 0), some (.ref 56), some (.int x3)], [], qMM mc mm lm)) rfl (by omega) (T_AT_race (by first | omega | decide) hf123) ?_
        refine q_ev_eq (S' := (491, [some (.ref 1000), some (.ref 0), some (.ref 56), some (.int x3)], [.int r122], qMM mc mm lm)) rfl ?_
        refine q_ev_run 5 (S' := (496, [some (.ref 1000), some (.ref 0), some (.ref 56), some (.int x3)], [.int (x3 + 1), .ref 1000, .ref 56, .int r122], qMM mc mm lm)) rfl ?_
        obtain ⟨hb124, h⟩ := q_cd h
        refine q_ev_chk (b := q_in (x3 + 1) Ln) hb124 (S' := (497, [some (.ref 1000), some (.ref 0), some (.ref 56), some (.int x3)], [.int (xs ((x3 + 1)).toNatClampNeg), .ref 56, .int r122], qMM mc mm lm)) rfl ?_
        obtain ⟨r125, hf126, h⟩ := Option.bind_eq_some_iff.mp h
        try dsimp only at h
        refine q_ev_call (S' := (500, [some (.ref 1000), some (.ref 0), some (.ref 56), some (.int x3)], [.int r122], qMM mc mm lm)) rfl (by omega) (T_Mo_race (by first | omega | decide) hf126) ?_
        refine q_ev_eq (S' := (500, [some (.ref 1000), some (.ref 0), some (.ref 56), some (.int x3)], [.int r125, .int r122], qMM mc mm lm)) rfl ?_
        by_cases hc127 : r122 = r125
        · rw [if_pos hc127] at h
          refine q_ev_brT hc127 (a := 839) (b := 503) rfl ?_
          refine q_ev_run 2 (S' := (18, [some (.ref 1000), some (.ref 0), some (.ref 56), some (.int (x3 + 5))], [], qMM mc mm lm)) rfl ?_
          exact ih mc mm lm (x3 + 5) _ h hr hk
        · rw [if_neg hc127] at h
          refine q_ev_brF hc127 (a := 839) (b := 503) rfl ?_
          refine q_ev_run 1 (S' := (504, [some (.ref 1000), some (.ref 0), some (.ref 56), some (.int x3)], [.int 0], qMM mc mm lm)) rfl ?_
          obtain rfl := (Option.some.inj h).symm
          rw [hr _ _ _ _ rfl]
          exact q_ev_ret rfl rfl
      rw [if_neg hc128] at h
      by_cases hc136 : (xs x3.toNatClampNeg &&& 31) = 13
      · rw [if_pos hc136] at h
        refine q_ev_sw (v := 505) (a := 505) (show q_sw (xs x3.toNatClampNeg &&& 31) 839 0 [156, 179, 192, 205, 238, 271, 294, 317, 350, 403, 436, 449, 482, 505, 518, 541, 584, 617, 630, 643, 666, 689, 723, 756, 779, 802, 825] = 505 by rw [hc136]; rfl) rfl rfl ?_
        refine q_ev_run 1 (S' := (506, [some (.ref 1000), some (.ref 0), some (.ref 56), some (.int x3)], [.ref 0], qMM mc mm lm)) rfl ?_
        obtain ⟨⟨r129, m130⟩, hf131, h⟩ := Option.bind_eq_some_iff.mp h
        try dsimp only at h
        refine q_ev_call (S' := (509, [some (.ref 1000), some (.ref 0), some (.ref 56), some (.int x3)], [], qMM mc mm lm)) rfl (by omega) (T_AT_one (by first | omega | decide) hf131) ?_
        refine q_ev_eq (S' := (509, [some (.ref 1000), some (.ref 0), some (.ref 56), some (.int x3)], [.int r129], qMM m130 mm lm)) rfl ?_
        refine q_ev_run 1 (S' := (510, [some (.ref 1000), some (.ref 0), some (.ref 56), some (.int x3)], [.ref 56, .int r129], qMM m130 mm lm)) rfl ?_
        obtain ⟨⟨r132, m133⟩, hf134, h⟩ := Option.bind_eq_some_iff.mp h
        try dsimp only at h
        refine q_ev_call (S' := (513, [some (.ref 1000), some (.ref 0), some (.ref 56), some (.int x3)], [.int r129], qMM m130 mm lm)) rfl (by omega) (T_Mo_one (by first | omega | decide) hf134) ?_
        refine q_ev_eq (S' := (513, [some (.ref 1000), some (.ref 0), some (.ref 56), some (.int x3)], [.int r132, .int r129], qMM m130 m133 lm)) rfl ?_
        by_cases hc135 : r129 = r132
        · rw [if_pos hc135] at h
          refine q_ev_brT hc135 (a := 839) (b := 516) rfl ?_
          refine q_ev_run 2 (S' := (18, [some (.ref 1000), some (.ref 0), some (.ref 56), some (.int (x3 + 5))], [], qMM m130 m133 lm)) rfl ?_
          exact ih m130 m133 lm (x3 + 5) _ h hr hk
        · rw [if_neg hc135] at h
          refine q_ev_brF hc135 (a := 839) (b := 516) rfl ?_
          refine q_ev_run 1 (S' := (517, [some (.ref 1000), some (.ref 0), some (.ref 56), some (.int x3)], [.int 0], qMM m130 m133 lm)) rfl ?_
          obtain rfl := (Option.some.inj h).symm
          rw [hr _ _ _ _ rfl]
          exact q_ev_ret rfl rfl
      rw [if_neg hc136] at h
      by_cases hc146 : (xs x3.toNatClampNeg &&& 31) = 14
      · rw [if_pos hc146] at h
        refine q_ev_sw (v := 518) (a := 518) (show q_sw (xs x3.toNatClampNeg &&& 31) 839 0 [156, 179, 192, 205, 238, 271, 294, 317, 350, 403, 436, 449, 482, 505, 518, 541, 584, 617, 630, 643, 666, 689, 723, 756, 779, 802, 825] = 518 by rw [hc146]; rfl) rfl rfl ?_
        refine q_ev_run 5 (S' := (523, [some (.ref 1000), some (.ref 0), some (.ref 56), some (.int x3)], [.int (x3 + 1), .ref 1000, .ref 0], qMM mc mm lm)) rfl ?_
        obtain ⟨hb137, h⟩ := q_cd h
        refine q_ev_chk (b := q_in (x3 + 1) Ln) hb137 (S' := (524, [some (.ref 1000), some (.ref 0), some (.ref 56), some (.int x3)], [.int (xs ((x3 + 1)).toNatClampNeg), .ref 0], qMM mc mm lm)) rfl ?_
        obtain ⟨⟨r138, m139⟩, hf140, h⟩ := Option.bind_eq_some_iff.mp h
        try dsimp only at h
        refine q_ev_call (S' := (527, [some (.ref 1000), some (.ref 0), some (.ref 56), some (.int x3)], [], qMM mc mm lm)) rfl (by omega) (T_AT_needed (by first | omega | decide) hf140) ?_
        refine q_ev_eq (S' := (527, [some (.ref 1000), some (.ref 0), some (.ref 56), some (.int x3)], [.int r138], qMM m139 mm lm)) rfl ?_
        refine q_ev_run 5 (S' := (532, [some (.ref 1000), some (.ref 0), some (.ref 56), some (.int x3)], [.int (x3 + 1), .ref 1000, .ref 56, .int r138], qMM m139 mm lm)) rfl ?_
        obtain ⟨hb141, h⟩ := q_cd h
        refine q_ev_chk (b := q_in (x3 + 1) Ln) hb141 (S' := (533, [some (.ref 1000), some (.ref 0), some (.ref 56), some (.int x3)], [.int (xs ((x3 + 1)).toNatClampNeg), .ref 56, .int r138], qMM m139 mm lm)) rfl ?_
        obtain ⟨⟨r142, m143⟩, hf144, h⟩ := Option.bind_eq_some_iff.mp h
        try dsimp only at h
        refine q_ev_call (S' := (536, [some (.ref 1000), some (.ref 0), some (.ref 56), some (.int x3)], [.int r138], qMM m139 mm lm)) rfl (by omega) (T_Mo_needed (by first | omega | decide) hf144) ?_
        refine q_ev_eq (S' := (536, [some (.ref 1000), some (.ref 0), some (.ref 56), some (.int x3)], [.int r142, .int r138], qMM m139 m143 lm)) rfl ?_
        by_cases hc145 : r138 = r142
        · rw [if_pos hc145] at h
          refine q_ev_brT hc145 (a := 839) (b := 539) rfl ?_
          refine q_ev_run 2 (S' := (18, [some (.ref 1000), some (.ref 0), some (.ref 56), some (.int (x3 + 5))], [], qMM m139 m143 lm)) rfl ?_
          exact ih m139 m143 lm (x3 + 5) _ h hr hk
        · rw [if_neg hc145] at h
          refine q_ev_brF hc145 (a := 839) (b := 539) rfl ?_
          refine q_ev_run 1 (S' := (540, [some (.ref 1000), some (.ref 0), some (.ref 56), some (.int x3)], [.int 0], qMM m139 m143 lm)) rfl ?_
          obtain rfl := (Option.some.inj h).symm
          rw [hr _ _ _ _ rfl]
          exact q_ev_ret rfl rfl
      rw [if_neg hc146] at h
      by_cases hc160 : (xs x3.toNatClampNeg &&& 31) = 15
      · rw [if_pos hc160] at h
        refine q_ev_sw (v := 541) (a := 541) (show q_sw (xs x3.toNatClampNeg &&& 31) 839 0 [156, 179, 192, 205, 238, 271, 294, 317, 350, 403, 436, 449, 482, 505, 518, 541, 584, 617, 630, 643, 666, 689, 723, 756, 779, 802, 825] = 541 by rw [hc160]; rfl) rfl rfl ?_
        refine q_ev_run 5 (S' := (546, [some (.ref 1000), some (.ref 0), some (.ref 56), some (.int x3)], [.int (x3 + 1), .ref 1000, .ref 0], qMM mc mm lm)) rfl ?_
        obtain ⟨hb147, h⟩ := q_cd h
        refine q_ev_chk (b := q_in (x3 + 1) Ln) hb147 (S' := (547, [some (.ref 1000), some (.ref 0), some (.ref 56), some (.int x3)], [.int (xs ((x3 + 1)).toNatClampNeg), .ref 0], qMM mc mm lm)) rfl ?_
        refine q_ev_run 4 (S' := (551, [some (.ref 1000), some (.ref 0), some (.ref 56), some (.int x3)], [.int (x3 + 2), .ref 1000, .int (xs ((x3 + 1)).toNatClampNeg), .ref 0], qMM mc mm lm)) rfl ?_
        obtain ⟨hb148, h⟩ := q_cd h
        refine q_ev_chk (b := q_in (x3 + 2) Ln) hb148 (S' := (552, [some (.ref 1000), some (.ref 0), some (.ref 56), some (.int x3)], [.int (xs ((x3 + 2)).toNatClampNeg), .int (xs ((x3 + 1)).toNatClampNeg), .ref 0], qMM mc mm lm)) rfl ?_
        refine q_ev_run 4 (S' := (556, [some (.ref 1000), some (.ref 0), some (.ref 56), some (.int x3)], [.int (x3 + 3), .ref 1000, .int (xs ((x3 + 2)).toNatClampNeg), .int (xs ((x3 + 1)).toNatClampNeg), .ref 0], qMM mc mm lm)) rfl ?_
        obtain ⟨hb149, h⟩ := q_cd h
        refine q_ev_chk (b := q_in (x3 + 3) Ln) hb149 (S' := (557, [some (.ref 1000), some (.ref 0), some (.ref 56), some (.int x3)], [.int (xs ((x3 + 3)).toNatClampNeg), .int (xs ((x3 + 2)).toNatClampNeg), .int (xs ((x3 + 1)).toNatClampNeg), .ref 0], qMM mc mm lm)) rfl ?_
        obtain ⟨⟨r150, m151⟩, hf152, h⟩ := Option.bind_eq_some_iff.mp h
        try dsimp only at h
        refine q_ev_call (S' := (560, [some (.ref 1000), some (.ref 0), some (.ref 56), some (.int x3)], [], qMM mc mm lm)) rfl (by omega) (T_AT_worst (by first | omega | decide) hf152) ?_
        refine q_ev_eq (S' := (560, [some (.ref 1000), some (.ref 0), some (.ref 56), some (.int x3)], [.int r150], qMM m151 mm lm)) rfl ?_
        refine q_ev_run 5 (S' := (565, [some (.ref 1000), some (.ref 0), some (.ref 56), some (.int x3)], [.int (x3 + 1), .ref 1000, .ref 56, .int r150], qMM m151 mm lm)) rfl ?_
        obtain ⟨hb153, h⟩ := q_cd h
        refine q_ev_chk (b := q_in (x3 + 1) Ln) hb153 (S' := (566, [some (.ref 1000), some (.ref 0), some (.ref 56), some (.int x3)], [.int (xs ((x3 + 1)).toNatClampNeg), .ref 56, .int r150], qMM m151 mm lm)) rfl ?_
        refine q_ev_run 4 (S' := (570, [some (.ref 1000), some (.ref 0), some (.ref 56), some (.int x3)], [.int (x3 + 2), .ref 1000, .int (xs ((x3 + 1)).toNatClampNeg), .ref 56, .int r150], qMM m151 mm lm)) rfl ?_
        obtain ⟨hb154, h⟩ := q_cd h
        refine q_ev_chk (b := q_in (x3 + 2) Ln) hb154 (S' := (571, [some (.ref 1000), some (.ref 0), some (.ref 56), some (.int x3)], [.int (xs ((x3 + 2)).toNatClampNeg), .int (xs ((x3 + 1)).toNatClampNeg), .ref 56, .int r150], qMM m151 mm lm)) rfl ?_
        refine q_ev_run 4 (S' := (575, [some (.ref 1000), some (.ref 0), some (.ref 56), some (.int x3)], [.int (x3 + 3), .ref 1000, .int (xs ((x3 + 2)).toNatClampNeg), .int (xs ((x3 + 1)).toNatClampNeg), .ref 56, .int r150], qMM m151 mm lm)) rfl ?_
        obtain ⟨hb155, h⟩ := q_cd h
        refine q_ev_chk (b := q_in (x3 + 3) Ln) hb155 (S' := (576, [some (.ref 1000), some (.ref 0), some (.ref 56), some (.int x3)], [.int (xs ((x3 + 3)).toNatClampNeg), .int (xs ((x3 + 2)).toNatClampNeg), .int (xs ((x3 + 1)).toNatClampNeg), .ref 56, .int r150], qMM m151 mm lm)) rfl ?_
        obtain ⟨⟨r156, m157⟩, hf158, h⟩ := Option.bind_eq_some_iff.mp h
        try dsimp only at h
        refine q_ev_call (S' := (579, [some (.ref 1000), some (.ref 0), some (.ref 56), some (.int x3)], [.int r150], qMM m151 mm lm)) rfl (by omega) (T_Mo_worst (by first | omega | decide) hf158) ?_
        refine q_ev_eq (S' := (579, [some (.ref 1000), some (.ref 0), some (.ref 56), some (.int x3)], [.int r156, .int r150], qMM m151 m157 lm)) rfl ?_
        by_cases hc159 : r150 = r156
        · rw [if_pos hc159] at h
          refine q_ev_brT hc159 (a := 839) (b := 582) rfl ?_
          refine q_ev_run 2 (S' := (18, [some (.ref 1000), some (.ref 0), some (.ref 56), some (.int (x3 + 5))], [], qMM m151 m157 lm)) rfl ?_
          exact ih m151 m157 lm (x3 + 5) _ h hr hk
        · rw [if_neg hc159] at h
          refine q_ev_brF hc159 (a := 839) (b := 582) rfl ?_
          refine q_ev_run 1 (S' := (583, [some (.ref 1000), some (.ref 0), some (.ref 56), some (.int x3)], [.int 0], qMM m151 m157 lm)) rfl ?_
          obtain rfl := (Option.some.inj h).symm
          rw [hr _ _ _ _ rfl]
          exact q_ev_ret rfl rfl
      rw [if_neg hc160] at h
      by_cases hc172 : (xs x3.toNatClampNeg &&& 31) = 16
      · rw [if_pos hc172] at h
        refine q_ev_sw (v := 584) (a := 584) (show q_sw (xs x3.toNatClampNeg &&& 31) 839 0 [156, 179, 192, 205, 238, 271, 294, 317, 350, 403, 436, 449, 482, 505, 518, 541, 584, 617, 630, 643, 666, 689, 723, 756, 779, 802, 825] = 584 by rw [hc172]; rfl) rfl rfl ?_
        refine q_ev_run 5 (S' := (589, [some (.ref 1000), some (.ref 0), some (.ref 56), some (.int x3)], [.int (x3 + 1), .ref 1000, .ref 0], qMM mc mm lm)) rfl ?_
        obtain ⟨hb161, h⟩ := q_cd h
        refine q_ev_chk (b := q_in (x3 + 1) Ln) hb161 (S' := (590, [some (.ref 1000), some (.ref 0), some (.ref 56), some (.int x3)], [.int (xs ((x3 + 1)).toNatClampNeg), .ref 0], qMM mc mm lm)) rfl ?_
        refine q_ev_run 4 (S' := (594, [some (.ref 1000), some (.ref 0), some (.ref 56), some (.int x3)], [.int (x3 + 2), .ref 1000, .int (xs ((x3 + 1)).toNatClampNeg), .ref 0], qMM mc mm lm)) rfl ?_
        obtain ⟨hb162, h⟩ := q_cd h
        refine q_ev_chk (b := q_in (x3 + 2) Ln) hb162 (S' := (595, [some (.ref 1000), some (.ref 0), some (.ref 56), some (.int x3)], [.int (xs ((x3 + 2)).toNatClampNeg), .int (xs ((x3 + 1)).toNatClampNeg), .ref 0], qMM mc mm lm)) rfl ?_
        obtain ⟨⟨r163, m164⟩, hf165, h⟩ := Option.bind_eq_some_iff.mp h
        try dsimp only at h
        refine q_ev_call (S' := (598, [some (.ref 1000), some (.ref 0), some (.ref 56), some (.int x3)], [], qMM mc mm lm)) rfl (by omega) (T_AT_saw (by first | omega | decide) hf165) ?_
        refine q_ev_eq (S' := (598, [some (.ref 1000), some (.ref 0), some (.ref 56), some (.int x3)], [.int r163], qMM m164 mm lm)) rfl ?_
        refine q_ev_run 5 (S' := (603, [some (.ref 1000), some (.ref 0), some (.ref 56), some (.int x3)], [.int (x3 + 1), .ref 1000, .ref 56, .int r163], qMM m164 mm lm)) rfl ?_
        obtain ⟨hb166, h⟩ := q_cd h
        refine q_ev_chk (b := q_in (x3 + 1) Ln) hb166 (S' := (604, [some (.ref 1000), some (.ref 0), some (.ref 56), some (.int x3)], [.int (xs ((x3 + 1)).toNatClampNeg), .ref 56, .int r163], qMM m164 mm lm)) rfl ?_
        refine q_ev_run 4 (S' := (608, [some (.ref 1000), some (.ref 0), some (.ref 56), some (.int x3)], [.int (x3 + 2), .ref 1000, .int (xs ((x3 + 1)).toNatClampNeg), .ref 56, .int r163], qMM m164 mm lm)) rfl ?_
        obtain ⟨hb167, h⟩ := q_cd h
        refine q_ev_chk (b := q_in (x3 + 2) Ln) hb167 (S' := (609, [some (.ref 1000), some (.ref 0), some (.ref 56), some (.int x3)], [.int (xs ((x3 + 2)).toNatClampNeg), .int (xs ((x3 + 1)).toNatClampNeg), .ref 56, .int r163], qMM m164 mm lm)) rfl ?_
        obtain ⟨⟨r168, m169⟩, hf170, h⟩ := Option.bind_eq_some_iff.mp h
        try dsimp only at h
        refine q_ev_call (S' := (612, [some (.ref 1000), some (.ref 0), some (.ref 56), some (.int x3)], [.int r163], qMM m164 mm lm)) rfl (by omega) (T_Mo_saw (by first | omega | decide) hf170) ?_
        refine q_ev_eq (S' := (612, [some (.ref 1000), some (.ref 0), some (.ref 56), some (.int x3)], [.int r168, .int r163], qMM m164 m169 lm)) rfl ?_
        by_cases hc171 : r163 = r168
        · rw [if_pos hc171] at h
          refine q_ev_brT hc171 (a := 839) (b := 615) rfl ?_
          refine q_ev_run 2 (S' := (18, [some (.ref 1000), some (.ref 0), some (.ref 56), some (.int (x3 + 5))], [], qMM m164 m169 lm)) rfl ?_
          exact ih m164 m169 lm (x3 + 5) _ h hr hk
        · rw [if_neg hc171] at h
          refine q_ev_brF hc171 (a := 839) (b := 615) rfl ?_
          refine q_ev_run 1 (S' := (616, [some (.ref 1000), some (.ref 0), some (.ref 56), some (.int x3)], [.int 0], qMM m164 m169 lm)) rfl ?_
          obtain rfl := (Option.some.inj h).symm
          rw [hr _ _ _ _ rfl]
          exact q_ev_ret rfl rfl
      rw [if_neg hc172] at h
      by_cases hc180 : (xs x3.toNatClampNeg &&& 31) = 17
      · rw [if_pos hc180] at h
        refine q_ev_sw (v := 617) (a := 617) (show q_sw (xs x3.toNatClampNeg &&& 31) 839 0 [156, 179, 192, 205, 238, 271, 294, 317, 350, 403, 436, 449, 482, 505, 518, 541, 584, 617, 630, 643, 666, 689, 723, 756, 779, 802, 825] = 617 by rw [hc180]; rfl) rfl rfl ?_
        refine q_ev_run 1 (S' := (618, [some (.ref 1000), some (.ref 0), some (.ref 56), some (.int x3)], [.ref 0], qMM mc mm lm)) rfl ?_
        obtain ⟨⟨r173, m174⟩, hf175, h⟩ := Option.bind_eq_some_iff.mp h
        try dsimp only at h
        refine q_ev_call (S' := (621, [some (.ref 1000), some (.ref 0), some (.ref 56), some (.int x3)], [], qMM mc mm lm)) rfl (by omega) (T_AT_forget (by first | omega | decide) hf175) ?_
        refine q_ev_eq (S' := (621, [some (.ref 1000), some (.ref 0), some (.ref 56), some (.int x3)], [.int r173], qMM m174 mm lm)) rfl ?_
        refine q_ev_run 1 (S' := (622, [some (.ref 1000), some (.ref 0), some (.ref 56), some (.int x3)], [.ref 56, .int r173], qMM m174 mm lm)) rfl ?_
        obtain ⟨⟨r176, m177⟩, hf178, h⟩ := Option.bind_eq_some_iff.mp h
        try dsimp only at h
        refine q_ev_call (S' := (625, [some (.ref 1000), some (.ref 0), some (.ref 56), some (.int x3)], [.int r173], qMM m174 mm lm)) rfl (by omega) (T_Mo_forget (by first | omega | decide) hf178) ?_
        refine q_ev_eq (S' := (625, [some (.ref 1000), some (.ref 0), some (.ref 56), some (.int x3)], [.int r176, .int r173], qMM m174 m177 lm)) rfl ?_
        by_cases hc179 : r173 = r176
        · rw [if_pos hc179] at h
          refine q_ev_brT hc179 (a := 839) (b := 628) rfl ?_
          refine q_ev_run 2 (S' := (18, [some (.ref 1000), some (.ref 0), some (.ref 56), some (.int (x3 + 5))], [], qMM m174 m177 lm)) rfl ?_
          exact ih m174 m177 lm (x3 + 5) _ h hr hk
        · rw [if_neg hc179] at h
          refine q_ev_brF hc179 (a := 839) (b := 628) rfl ?_
          refine q_ev_run 1 (S' := (629, [some (.ref 1000), some (.ref 0), some (.ref 56), some (.int x3)], [.int 0], qMM m174 m177 lm)) rfl ?_
          obtain rfl := (Option.some.inj h).symm
          rw [hr _ _ _ _ rfl]
          exact q_ev_ret rfl rfl
      rw [if_neg hc180] at h
      by_cases hc188 : (xs x3.toNatClampNeg &&& 31) = 18
      · rw [if_pos hc188] at h
        refine q_ev_sw (v := 630) (a := 630) (show q_sw (xs x3.toNatClampNeg &&& 31) 839 0 [156, 179, 192, 205, 238, 271, 294, 317, 350, 403, 436, 449, 482, 505, 518, 541, 584, 617, 630, 643, 666, 689, 723, 756, 779, 802, 825] = 630 by rw [hc188]; rfl) rfl rfl ?_
        refine q_ev_run 1 (S' := (631, [some (.ref 1000), some (.ref 0), some (.ref 56), some (.int x3)], [.ref 0], qMM mc mm lm)) rfl ?_
        obtain ⟨⟨r181, m182⟩, hf183, h⟩ := Option.bind_eq_some_iff.mp h
        try dsimp only at h
        refine q_ev_call (S' := (634, [some (.ref 1000), some (.ref 0), some (.ref 56), some (.int x3)], [], qMM mc mm lm)) rfl (by omega) (T_AT_fits (by first | omega | decide) hf183) ?_
        refine q_ev_eq (S' := (634, [some (.ref 1000), some (.ref 0), some (.ref 56), some (.int x3)], [.int r181], qMM m182 mm lm)) rfl ?_
        refine q_ev_run 1 (S' := (635, [some (.ref 1000), some (.ref 0), some (.ref 56), some (.int x3)], [.ref 56, .int r181], qMM m182 mm lm)) rfl ?_
        obtain ⟨⟨r184, m185⟩, hf186, h⟩ := Option.bind_eq_some_iff.mp h
        try dsimp only at h
        refine q_ev_call (S' := (638, [some (.ref 1000), some (.ref 0), some (.ref 56), some (.int x3)], [.int r181], qMM m182 mm lm)) rfl (by omega) (T_Mo_fits (by first | omega | decide) hf186) ?_
        refine q_ev_eq (S' := (638, [some (.ref 1000), some (.ref 0), some (.ref 56), some (.int x3)], [.int r184, .int r181], qMM m182 m185 lm)) rfl ?_
        by_cases hc187 : r181 = r184
        · rw [if_pos hc187] at h
          refine q_ev_brT hc187 (a := 839) (b := 641) rfl ?_
          refine q_ev_run 2 (S' := (18, [some (.ref 1000), some (.ref 0), some (.ref 56), some (.int (x3 + 5))], [], qMM m182 m185 lm)) rfl ?_
          exact ih m182 m185 lm (x3 + 5) _ h hr hk
        · rw [if_neg hc187] at h
          refine q_ev_brF hc187 (a := 839) (b := 641) rfl ?_
          refine q_ev_run 1 (S' := (642, [some (.ref 1000), some (.ref 0), some (.ref 56), some (.int x3)], [.int 0], qMM m182 m185 lm)) rfl ?_
          obtain rfl := (Option.some.inj h).symm
          rw [hr _ _ _ _ rfl]
          exact q_ev_ret rfl rfl
      rw [if_neg hc188] at h
      by_cases hc198 : (xs x3.toNatClampNeg &&& 31) = 19
      · rw [if_pos hc198] at h
        refine q_ev_sw (v := 643) (a := 643) (show q_sw (xs x3.toNatClampNeg &&& 31) 839 0 [156, 179, 192, 205, 238, 271, 294, 317, 350, 403, 436, 449, 482, 505, 518, 541, 584, 617, 630, 643, 666, 689, 723, 756, 779, 802, 825] = 643 by rw [hc198]; rfl) rfl rfl ?_
        refine q_ev_run 5 (S' := (648, [some (.ref 1000), some (.ref 0), some (.ref 56), some (.int x3)], [.int (x3 + 1), .ref 1000, .ref 0], qMM mc mm lm)) rfl ?_
        obtain ⟨hb189, h⟩ := q_cd h
        refine q_ev_chk (b := q_in (x3 + 1) Ln) hb189 (S' := (649, [some (.ref 1000), some (.ref 0), some (.ref 56), some (.int x3)], [.int (xs ((x3 + 1)).toNatClampNeg), .ref 0], qMM mc mm lm)) rfl ?_
        obtain ⟨⟨r190, m191⟩, hf192, h⟩ := Option.bind_eq_some_iff.mp h
        try dsimp only at h
        refine q_ev_call (S' := (652, [some (.ref 1000), some (.ref 0), some (.ref 56), some (.int x3)], [], qMM mc mm lm)) rfl (by omega) (T_AT_sure (by first | omega | decide) hf192) ?_
        refine q_ev_eq (S' := (652, [some (.ref 1000), some (.ref 0), some (.ref 56), some (.int x3)], [.int r190], qMM m191 mm lm)) rfl ?_
        refine q_ev_run 5 (S' := (657, [some (.ref 1000), some (.ref 0), some (.ref 56), some (.int x3)], [.int (x3 + 1), .ref 1000, .ref 56, .int r190], qMM m191 mm lm)) rfl ?_
        obtain ⟨hb193, h⟩ := q_cd h
        refine q_ev_chk (b := q_in (x3 + 1) Ln) hb193 (S' := (658, [some (.ref 1000), some (.ref 0), some (.ref 56), some (.int x3)], [.int (xs ((x3 + 1)).toNatClampNeg), .ref 56, .int r190], qMM m191 mm lm)) rfl ?_
        obtain ⟨⟨r194, m195⟩, hf196, h⟩ := Option.bind_eq_some_iff.mp h
        try dsimp only at h
        refine q_ev_call (S' := (661, [some (.ref 1000), some (.ref 0), some (.ref 56), some (.int x3)], [.int r190], qMM m191 mm lm)) rfl (by omega) (T_Mo_sure (by first | omega | decide) hf196) ?_
        refine q_ev_eq (S' := (661, [some (.ref 1000), some (.ref 0), some (.ref 56), some (.int x3)], [.int r194, .int r190], qMM m191 m195 lm)) rfl ?_
        by_cases hc197 : r190 = r194
        · rw [if_pos hc197] at h
          refine q_ev_brT hc197 (a := 839) (b := 664) rfl ?_
          refine q_ev_run 2 (S' := (18, [some (.ref 1000), some (.ref 0), some (.ref 56), some (.int (x3 + 5))], [], qMM m191 m195 lm)) rfl ?_
          exact ih m191 m195 lm (x3 + 5) _ h hr hk
        · rw [if_neg hc197] at h
          refine q_ev_brF hc197 (a := 839) (b := 664) rfl ?_
          refine q_ev_run 1 (S' := (665, [some (.ref 1000), some (.ref 0), some (.ref 56), some (.int x3)], [.int 0], qMM m191 m195 lm)) rfl ?_
          obtain rfl := (Option.some.inj h).symm
          rw [hr _ _ _ _ rfl]
          exact q_ev_ret rfl rfl
      rw [if_neg hc198] at h
      by_cases hc206 : (xs x3.toNatClampNeg &&& 31) = 20
      · rw [if_pos hc206] at h
        refine q_ev_sw (v := 666) (a := 666) (show q_sw (xs x3.toNatClampNeg &&& 31) 839 0 [156, 179, 192, 205, 238, 271, 294, 317, 350, 403, 436, 449, 482, 505, 518, 541, 584, 617, 630, 643, 666, 689, 723, 756, 779, 802, 825] = 666 by rw [hc206]; rfl) rfl rfl ?_
        refine q_ev_run 5 (S' := (671, [some (.ref 1000), some (.ref 0), some (.ref 56), some (.int x3)], [.int (x3 + 1), .ref 1000, .ref 0], qMM mc mm lm)) rfl ?_
        obtain ⟨hb199, h⟩ := q_cd h
        refine q_ev_chk (b := q_in (x3 + 1) Ln) hb199 (S' := (672, [some (.ref 1000), some (.ref 0), some (.ref 56), some (.int x3)], [.int (xs ((x3 + 1)).toNatClampNeg), .ref 0], qMM mc mm lm)) rfl ?_
        obtain ⟨r200, hf201, h⟩ := Option.bind_eq_some_iff.mp h
        try dsimp only at h
        refine q_ev_call (S' := (675, [some (.ref 1000), some (.ref 0), some (.ref 56), some (.int x3)], [], qMM mc mm lm)) rfl (by omega) (T_AT_ask (by first | omega | decide) hf201) ?_
        refine q_ev_eq (S' := (675, [some (.ref 1000), some (.ref 0), some (.ref 56), some (.int x3)], [.int r200], qMM mc mm lm)) rfl ?_
        refine q_ev_run 5 (S' := (680, [some (.ref 1000), some (.ref 0), some (.ref 56), some (.int x3)], [.int (x3 + 1), .ref 1000, .ref 56, .int r200], qMM mc mm lm)) rfl ?_
        obtain ⟨hb202, h⟩ := q_cd h
        refine q_ev_chk (b := q_in (x3 + 1) Ln) hb202 (S' := (681, [some (.ref 1000), some (.ref 0), some (.ref 56), some (.int x3)], [.int (xs ((x3 + 1)).toNatClampNeg), .ref 56, .int r200], qMM mc mm lm)) rfl ?_
        obtain ⟨r203, hf204, h⟩ := Option.bind_eq_some_iff.mp h
        try dsimp only at h
        refine q_ev_call (S' := (684, [some (.ref 1000), some (.ref 0), some (.ref 56), some (.int x3)], [.int r200], qMM mc mm lm)) rfl (by omega) (T_Mo_ask (by first | omega | decide) hf204) ?_
        refine q_ev_eq (S' := (684, [some (.ref 1000), some (.ref 0), some (.ref 56), some (.int x3)], [.int r203, .int r200], qMM mc mm lm)) rfl ?_
        by_cases hc205 : r200 = r203
        · rw [if_pos hc205] at h
          refine q_ev_brT hc205 (a := 839) (b := 687) rfl ?_
          refine q_ev_run 2 (S' := (18, [some (.ref 1000), some (.ref 0), some (.ref 56), some (.int (x3 + 5))], [], qMM mc mm lm)) rfl ?_
          exact ih mc mm lm (x3 + 5) _ h hr hk
        · rw [if_neg hc205] at h
          refine q_ev_brF hc205 (a := 839) (b := 687) rfl ?_
          refine q_ev_run 1 (S' := (688, [some (.ref 1000), some (.ref 0), some (.ref 56), some (.int x3)], [.int 0], qMM mc mm lm)) rfl ?_
          obtain rfl := (Option.some.inj h).symm
          rw [hr _ _ _ _ rfl]
          exact q_ev_ret rfl rfl
      rw [if_neg hc206] at h
      by_cases hc216 : (xs x3.toNatClampNeg &&& 31) = 21
      · rw [if_pos hc216] at h
        refine q_ev_sw (v := 689) (a := 689) (show q_sw (xs x3.toNatClampNeg &&& 31) 839 0 [156, 179, 192, 205, 238, 271, 294, 317, 350, 403, 436, 449, 482, 505, 518, 541, 584, 617, 630, 643, 666, 689, 723, 756, 779, 802, 825] = 689 by rw [hc216]; rfl) rfl rfl ?_
        refine q_ev_run 5 (S' := (694, [some (.ref 1000), some (.ref 0), some (.ref 56), some (.int x3)], [.int (x3 + 1), .ref 1000, .ref 0], qMM mc mm lm)) rfl ?_
        obtain ⟨hb207, h⟩ := q_cd h
        refine q_ev_chk (b := q_in (x3 + 1) Ln) hb207 (S' := (695, [some (.ref 1000), some (.ref 0), some (.ref 56), some (.int x3)], [.int (xs ((x3 + 1)).toNatClampNeg), .ref 0], qMM mc mm lm)) rfl ?_
        refine q_ev_run 4 (S' := (699, [some (.ref 1000), some (.ref 0), some (.ref 56), some (.int x3)], [.int (x3 + 2), .ref 1000, .int (xs ((x3 + 1)).toNatClampNeg), .ref 0], qMM mc mm lm)) rfl ?_
        obtain ⟨hb208, h⟩ := q_cd h
        refine q_ev_chk (b := q_in (x3 + 2) Ln) hb208 (S' := (700, [some (.ref 1000), some (.ref 0), some (.ref 56), some (.int x3)], [.int (xs ((x3 + 2)).toNatClampNeg), .int (xs ((x3 + 1)).toNatClampNeg), .ref 0], qMM mc mm lm)) rfl ?_
        obtain ⟨r209, hf210, h⟩ := Option.bind_eq_some_iff.mp h
        try dsimp only at h
        refine q_ev_call (S' := (703, [some (.ref 1000), some (.ref 0), some (.ref 56), some (.int x3)], [], qMM mc mm lm)) rfl (by omega) (T_AT_bet (by first | omega | decide) hf210) ?_
        refine q_ev_eq (S' := (703, [some (.ref 1000), some (.ref 0), some (.ref 56), some (.int x3)], [.long r209], qMM mc mm lm)) rfl ?_
        refine q_ev_run 5 (S' := (708, [some (.ref 1000), some (.ref 0), some (.ref 56), some (.int x3)], [.int (x3 + 1), .ref 1000, .ref 56, .long r209], qMM mc mm lm)) rfl ?_
        obtain ⟨hb211, h⟩ := q_cd h
        refine q_ev_chk (b := q_in (x3 + 1) Ln) hb211 (S' := (709, [some (.ref 1000), some (.ref 0), some (.ref 56), some (.int x3)], [.int (xs ((x3 + 1)).toNatClampNeg), .ref 56, .long r209], qMM mc mm lm)) rfl ?_
        refine q_ev_run 4 (S' := (713, [some (.ref 1000), some (.ref 0), some (.ref 56), some (.int x3)], [.int (x3 + 2), .ref 1000, .int (xs ((x3 + 1)).toNatClampNeg), .ref 56, .long r209], qMM mc mm lm)) rfl ?_
        obtain ⟨hb212, h⟩ := q_cd h
        refine q_ev_chk (b := q_in (x3 + 2) Ln) hb212 (S' := (714, [some (.ref 1000), some (.ref 0), some (.ref 56), some (.int x3)], [.int (xs ((x3 + 2)).toNatClampNeg), .int (xs ((x3 + 1)).toNatClampNeg), .ref 56, .long r209], qMM mc mm lm)) rfl ?_
        obtain ⟨r213, hf214, h⟩ := Option.bind_eq_some_iff.mp h
        try dsimp only at h
        refine q_ev_call (S' := (717, [some (.ref 1000), some (.ref 0), some (.ref 56), some (.int x3)], [.long r209], qMM mc mm lm)) rfl (by omega) (T_Mo_bet (by first | omega | decide) hf214) ?_
        refine q_ev_eq (S' := (717, [some (.ref 1000), some (.ref 0), some (.ref 56), some (.int x3)], [.long r213, .long r209], qMM mc mm lm)) rfl ?_
        refine q_ev_run 1 (S' := (718, [some (.ref 1000), some (.ref 0), some (.ref 56), some (.int x3)], [.int (lg_cmp r209 r213)], qMM mc mm lm)) rfl ?_
        by_cases hc215 : (lg_cmp r209 r213) = 0
        · rw [if_pos hc215] at h
          refine q_ev_brT hc215 (a := 839) (b := 721) rfl ?_
          refine q_ev_run 2 (S' := (18, [some (.ref 1000), some (.ref 0), some (.ref 56), some (.int (x3 + 5))], [], qMM mc mm lm)) rfl ?_
          exact ih mc mm lm (x3 + 5) _ h hr hk
        · rw [if_neg hc215] at h
          refine q_ev_brF hc215 (a := 839) (b := 721) rfl ?_
          refine q_ev_run 1 (S' := (722, [some (.ref 1000), some (.ref 0), some (.ref 56), some (.int x3)], [.int 0], qMM mc mm lm)) rfl ?_
          obtain rfl := (Option.some.inj h).symm
          rw [hr _ _ _ _ rfl]
          exact q_ev_ret rfl rfl
      rw [if_neg hc216] at h
      by_cases hc228 : (xs x3.toNatClampNeg &&& 31) = 22
      · rw [if_pos hc228] at h
        refine q_ev_sw (v := 723) (a := 723) (show q_sw (xs x3.toNatClampNeg &&& 31) 839 0 [156, 179, 192, 205, 238, 271, 294, 317, 350, 403, 436, 449, 482, 505, 518, 541, 584, 617, 630, 643, 666, 689, 723, 756, 779, 802, 825] = 723 by rw [hc228]; rfl) rfl rfl ?_
        refine q_ev_run 5 (S' := (728, [some (.ref 1000), some (.ref 0), some (.ref 56), some (.int x3)], [.int (x3 + 1), .ref 1000, .ref 0], qMM mc mm lm)) rfl ?_
        obtain ⟨hb217, h⟩ := q_cd h
        refine q_ev_chk (b := q_in (x3 + 1) Ln) hb217 (S' := (729, [some (.ref 1000), some (.ref 0), some (.ref 56), some (.int x3)], [.int (xs ((x3 + 1)).toNatClampNeg), .ref 0], qMM mc mm lm)) rfl ?_
        refine q_ev_run 4 (S' := (733, [some (.ref 1000), some (.ref 0), some (.ref 56), some (.int x3)], [.int (x3 + 2), .ref 1000, .int (xs ((x3 + 1)).toNatClampNeg), .ref 0], qMM mc mm lm)) rfl ?_
        obtain ⟨hb218, h⟩ := q_cd h
        refine q_ev_chk (b := q_in (x3 + 2) Ln) hb218 (S' := (734, [some (.ref 1000), some (.ref 0), some (.ref 56), some (.int x3)], [.int (xs ((x3 + 2)).toNatClampNeg), .int (xs ((x3 + 1)).toNatClampNeg), .ref 0], qMM mc mm lm)) rfl ?_
        obtain ⟨⟨r219, lm220⟩, hf221, h⟩ := Option.bind_eq_some_iff.mp h
        try dsimp only at h
        refine q_ev_call (S' := (737, [some (.ref 1000), some (.ref 0), some (.ref 56), some (.int x3)], [], qMM mc mm lm)) rfl (by omega) (T_AT_rate (by first | omega | decide) hf221) ?_
        refine q_ev_eq (S' := (737, [some (.ref 1000), some (.ref 0), some (.ref 56), some (.int x3)], [.int r219], qMM mc mm lm220)) rfl ?_
        refine q_ev_run 5 (S' := (742, [some (.ref 1000), some (.ref 0), some (.ref 56), some (.int x3)], [.int (x3 + 1), .ref 1000, .ref 56, .int r219], qMM mc mm lm220)) rfl ?_
        obtain ⟨hb222, h⟩ := q_cd h
        refine q_ev_chk (b := q_in (x3 + 1) Ln) hb222 (S' := (743, [some (.ref 1000), some (.ref 0), some (.ref 56), some (.int x3)], [.int (xs ((x3 + 1)).toNatClampNeg), .ref 56, .int r219], qMM mc mm lm220)) rfl ?_
        refine q_ev_run 4 (S' := (747, [some (.ref 1000), some (.ref 0), some (.ref 56), some (.int x3)], [.int (x3 + 2), .ref 1000, .int (xs ((x3 + 1)).toNatClampNeg), .ref 56, .int r219], qMM mc mm lm220)) rfl ?_
        obtain ⟨hb223, h⟩ := q_cd h
        refine q_ev_chk (b := q_in (x3 + 2) Ln) hb223 (S' := (748, [some (.ref 1000), some (.ref 0), some (.ref 56), some (.int x3)], [.int (xs ((x3 + 2)).toNatClampNeg), .int (xs ((x3 + 1)).toNatClampNeg), .ref 56, .int r219], qMM mc mm lm220)) rfl ?_
        obtain ⟨⟨r224, lm225⟩, hf226, h⟩ := Option.bind_eq_some_iff.mp h
        try dsimp only at h
        refine q_ev_call (S' := (751, [some (.ref 1000), some (.ref 0), some (.ref 56), some (.int x3)], [.int r219], qMM mc mm lm220)) rfl (by omega) (T_Mo_rate (by first | omega | decide) hf226) ?_
        refine q_ev_eq (S' := (751, [some (.ref 1000), some (.ref 0), some (.ref 56), some (.int x3)], [.int r224, .int r219], qMM mc mm lm225)) rfl ?_
        by_cases hc227 : r219 = r224
        · rw [if_pos hc227] at h
          refine q_ev_brT hc227 (a := 839) (b := 754) rfl ?_
          refine q_ev_run 2 (S' := (18, [some (.ref 1000), some (.ref 0), some (.ref 56), some (.int (x3 + 5))], [], qMM mc mm lm225)) rfl ?_
          exact ih mc mm lm225 (x3 + 5) _ h hr hk
        · rw [if_neg hc227] at h
          refine q_ev_brF hc227 (a := 839) (b := 754) rfl ?_
          refine q_ev_run 1 (S' := (755, [some (.ref 1000), some (.ref 0), some (.ref 56), some (.int x3)], [.int 0], qMM mc mm lm225)) rfl ?_
          obtain rfl := (Option.some.inj h).symm
          rw [hr _ _ _ _ rfl]
          exact q_ev_ret rfl rfl
      rw [if_neg hc228] at h
      by_cases hc238 : (xs x3.toNatClampNeg &&& 31) = 23
      · rw [if_pos hc238] at h
        refine q_ev_sw (v := 756) (a := 756) (show q_sw (xs x3.toNatClampNeg &&& 31) 839 0 [156, 179, 192, 205, 238, 271, 294, 317, 350, 403, 436, 449, 482, 505, 518, 541, 584, 617, 630, 643, 666, 689, 723, 756, 779, 802, 825] = 756 by rw [hc238]; rfl) rfl rfl ?_
        refine q_ev_run 5 (S' := (761, [some (.ref 1000), some (.ref 0), some (.ref 56), some (.int x3)], [.int (x3 + 1), .ref 1000, .ref 0], qMM mc mm lm)) rfl ?_
        obtain ⟨hb229, h⟩ := q_cd h
        refine q_ev_chk (b := q_in (x3 + 1) Ln) hb229 (S' := (762, [some (.ref 1000), some (.ref 0), some (.ref 56), some (.int x3)], [.int (xs ((x3 + 1)).toNatClampNeg), .ref 0], qMM mc mm lm)) rfl ?_
        obtain ⟨⟨r230, m231⟩, hf232, h⟩ := Option.bind_eq_some_iff.mp h
        try dsimp only at h
        refine q_ev_call (S' := (765, [some (.ref 1000), some (.ref 0), some (.ref 56), some (.int x3)], [], qMM mc mm lm)) rfl (by omega) (T_AT_keep (by first | omega | decide) hf232) ?_
        refine q_ev_eq (S' := (765, [some (.ref 1000), some (.ref 0), some (.ref 56), some (.int x3)], [.int r230], qMM m231 mm lm)) rfl ?_
        refine q_ev_run 5 (S' := (770, [some (.ref 1000), some (.ref 0), some (.ref 56), some (.int x3)], [.int (x3 + 1), .ref 1000, .ref 56, .int r230], qMM m231 mm lm)) rfl ?_
        obtain ⟨hb233, h⟩ := q_cd h
        refine q_ev_chk (b := q_in (x3 + 1) Ln) hb233 (S' := (771, [some (.ref 1000), some (.ref 0), some (.ref 56), some (.int x3)], [.int (xs ((x3 + 1)).toNatClampNeg), .ref 56, .int r230], qMM m231 mm lm)) rfl ?_
        obtain ⟨⟨r234, m235⟩, hf236, h⟩ := Option.bind_eq_some_iff.mp h
        try dsimp only at h
        refine q_ev_call (S' := (774, [some (.ref 1000), some (.ref 0), some (.ref 56), some (.int x3)], [.int r230], qMM m231 mm lm)) rfl (by omega) (T_Mo_keep (by first | omega | decide) hf236) ?_
        refine q_ev_eq (S' := (774, [some (.ref 1000), some (.ref 0), some (.ref 56), some (.int x3)], [.int r234, .int r230], qMM m231 m235 lm)) rfl ?_
        by_cases hc237 : r230 = r234
        · rw [if_pos hc237] at h
          refine q_ev_brT hc237 (a := 839) (b := 777) rfl ?_
          refine q_ev_run 2 (S' := (18, [some (.ref 1000), some (.ref 0), some (.ref 56), some (.int (x3 + 5))], [], qMM m231 m235 lm)) rfl ?_
          exact ih m231 m235 lm (x3 + 5) _ h hr hk
        · rw [if_neg hc237] at h
          refine q_ev_brF hc237 (a := 839) (b := 777) rfl ?_
          refine q_ev_run 1 (S' := (778, [some (.ref 1000), some (.ref 0), some (.ref 56), some (.int x3)], [.int 0], qMM m231 m235 lm)) rfl ?_
          obtain rfl := (Option.some.inj h).symm
          rw [hr _ _ _ _ rfl]
          exact q_ev_ret rfl rfl
      rw [if_neg hc238] at h
      by_cases hc248 : (xs x3.toNatClampNeg &&& 31) = 24
      · rw [if_pos hc248] at h
        refine q_ev_sw (v := 779) (a := 779) (show q_sw (xs x3.toNatClampNeg &&& 31) 839 0 [156, 179, 192, 205, 238, 271, 294, 317, 350, 403, 436, 449, 482, 505, 518, 541, 584, 617, 630, 643, 666, 689, 723, 756, 779, 802, 825] = 779 by rw [hc248]; rfl) rfl rfl ?_
        refine q_ev_run 5 (S' := (784, [some (.ref 1000), some (.ref 0), some (.ref 56), some (.int x3)], [.int (x3 + 1), .ref 1000, .ref 0], qMM mc mm lm)) rfl ?_
        obtain ⟨hb239, h⟩ := q_cd h
        refine q_ev_chk (b := q_in (x3 + 1) Ln) hb239 (S' := (785, [some (.ref 1000), some (.ref 0), some (.ref 56), some (.int x3)], [.int (xs ((x3 + 1)).toNatClampNeg), .ref 0], qMM mc mm lm)) rfl ?_
        obtain ⟨⟨r240, m241⟩, hf242, h⟩ := Option.bind_eq_some_iff.mp h
        try dsimp only at h
        refine q_ev_call (S' := (788, [some (.ref 1000), some (.ref 0), some (.ref 56), some (.int x3)], [], qMM mc mm lm)) rfl (by omega) (T_AT_back (by first | omega | decide) hf242) ?_
        refine q_ev_eq (S' := (788, [some (.ref 1000), some (.ref 0), some (.ref 56), some (.int x3)], [.int r240], qMM m241 mm lm)) rfl ?_
        refine q_ev_run 5 (S' := (793, [some (.ref 1000), some (.ref 0), some (.ref 56), some (.int x3)], [.int (x3 + 1), .ref 1000, .ref 56, .int r240], qMM m241 mm lm)) rfl ?_
        obtain ⟨hb243, h⟩ := q_cd h
        refine q_ev_chk (b := q_in (x3 + 1) Ln) hb243 (S' := (794, [some (.ref 1000), some (.ref 0), some (.ref 56), some (.int x3)], [.int (xs ((x3 + 1)).toNatClampNeg), .ref 56, .int r240], qMM m241 mm lm)) rfl ?_
        obtain ⟨⟨r244, m245⟩, hf246, h⟩ := Option.bind_eq_some_iff.mp h
        try dsimp only at h
        refine q_ev_call (S' := (797, [some (.ref 1000), some (.ref 0), some (.ref 56), some (.int x3)], [.int r240], qMM m241 mm lm)) rfl (by omega) (T_Mo_back (by first | omega | decide) hf246) ?_
        refine q_ev_eq (S' := (797, [some (.ref 1000), some (.ref 0), some (.ref 56), some (.int x3)], [.int r244, .int r240], qMM m241 m245 lm)) rfl ?_
        by_cases hc247 : r240 = r244
        · rw [if_pos hc247] at h
          refine q_ev_brT hc247 (a := 839) (b := 800) rfl ?_
          refine q_ev_run 2 (S' := (18, [some (.ref 1000), some (.ref 0), some (.ref 56), some (.int (x3 + 5))], [], qMM m241 m245 lm)) rfl ?_
          exact ih m241 m245 lm (x3 + 5) _ h hr hk
        · rw [if_neg hc247] at h
          refine q_ev_brF hc247 (a := 839) (b := 800) rfl ?_
          refine q_ev_run 1 (S' := (801, [some (.ref 1000), some (.ref 0), some (.ref 56), some (.int x3)], [.int 0], qMM m241 m245 lm)) rfl ?_
          obtain rfl := (Option.some.inj h).symm
          rw [hr _ _ _ _ rfl]
          exact q_ev_ret rfl rfl
      rw [if_neg hc248] at h
      by_cases hc256 : (xs x3.toNatClampNeg &&& 31) = 25
      · rw [if_pos hc256] at h
        refine q_ev_sw (v := 802) (a := 802) (show q_sw (xs x3.toNatClampNeg &&& 31) 839 0 [156, 179, 192, 205, 238, 271, 294, 317, 350, 403, 436, 449, 482, 505, 518, 541, 584, 617, 630, 643, 666, 689, 723, 756, 779, 802, 825] = 802 by rw [hc256]; rfl) rfl rfl ?_
        refine q_ev_run 5 (S' := (807, [some (.ref 1000), some (.ref 0), some (.ref 56), some (.int x3)], [.int (x3 + 1), .ref 1000, .ref 0], qMM mc mm lm)) rfl ?_
        obtain ⟨hb249, h⟩ := q_cd h
        refine q_ev_chk (b := q_in (x3 + 1) Ln) hb249 (S' := (808, [some (.ref 1000), some (.ref 0), some (.ref 56), some (.int x3)], [.int (xs ((x3 + 1)).toNatClampNeg), .ref 0], qMM mc mm lm)) rfl ?_
        obtain ⟨r250, hf251, h⟩ := Option.bind_eq_some_iff.mp h
        try dsimp only at h
        refine q_ev_call (S' := (811, [some (.ref 1000), some (.ref 0), some (.ref 56), some (.int x3)], [], qMM mc mm lm)) rfl (by omega) (T_AT_count (by first | omega | decide) hf251) ?_
        refine q_ev_eq (S' := (811, [some (.ref 1000), some (.ref 0), some (.ref 56), some (.int x3)], [.int r250], qMM mc mm lm)) rfl ?_
        refine q_ev_run 5 (S' := (816, [some (.ref 1000), some (.ref 0), some (.ref 56), some (.int x3)], [.int (x3 + 1), .ref 1000, .ref 56, .int r250], qMM mc mm lm)) rfl ?_
        obtain ⟨hb252, h⟩ := q_cd h
        refine q_ev_chk (b := q_in (x3 + 1) Ln) hb252 (S' := (817, [some (.ref 1000), some (.ref 0), some (.ref 56), some (.int x3)], [.int (xs ((x3 + 1)).toNatClampNeg), .ref 56, .int r250], qMM mc mm lm)) rfl ?_
        obtain ⟨r253, hf254, h⟩ := Option.bind_eq_some_iff.mp h
        try dsimp only at h
        refine q_ev_call (S' := (820, [some (.ref 1000), some (.ref 0), some (.ref 56), some (.int x3)], [.int r250], qMM mc mm lm)) rfl (by omega) (T_Mo_count (by first | omega | decide) hf254) ?_
        refine q_ev_eq (S' := (820, [some (.ref 1000), some (.ref 0), some (.ref 56), some (.int x3)], [.int r253, .int r250], qMM mc mm lm)) rfl ?_
        by_cases hc255 : r250 = r253
        · rw [if_pos hc255] at h
          refine q_ev_brT hc255 (a := 839) (b := 823) rfl ?_
          refine q_ev_run 2 (S' := (18, [some (.ref 1000), some (.ref 0), some (.ref 56), some (.int (x3 + 5))], [], qMM mc mm lm)) rfl ?_
          exact ih mc mm lm (x3 + 5) _ h hr hk
        · rw [if_neg hc255] at h
          refine q_ev_brF hc255 (a := 839) (b := 823) rfl ?_
          refine q_ev_run 1 (S' := (824, [some (.ref 1000), some (.ref 0), some (.ref 56), some (.int x3)], [.int 0], qMM mc mm lm)) rfl ?_
          obtain rfl := (Option.some.inj h).symm
          rw [hr _ _ _ _ rfl]
          exact q_ev_ret rfl rfl
      rw [if_neg hc256] at h
      by_cases hc262 : (xs x3.toNatClampNeg &&& 31) = 26
      · rw [if_pos hc262] at h
        refine q_ev_sw (v := 825) (a := 825) (show q_sw (xs x3.toNatClampNeg &&& 31) 839 0 [156, 179, 192, 205, 238, 271, 294, 317, 350, 403, 436, 449, 482, 505, 518, 541, 584, 617, 630, 643, 666, 689, 723, 756, 779, 802, 825] = 825 by rw [hc262]; rfl) rfl rfl ?_
        refine q_ev_run 1 (S' := (826, [some (.ref 1000), some (.ref 0), some (.ref 56), some (.int x3)], [.ref 0], qMM mc mm lm)) rfl ?_
        obtain ⟨r257, hf258, h⟩ := Option.bind_eq_some_iff.mp h
        try dsimp only at h
        refine q_ev_call (S' := (829, [some (.ref 1000), some (.ref 0), some (.ref 56), some (.int x3)], [], qMM mc mm lm)) rfl (by omega) (T_AT_trace (by first | omega | decide) hf258) ?_
        refine q_ev_eq (S' := (829, [some (.ref 1000), some (.ref 0), some (.ref 56), some (.int x3)], [.long r257], qMM mc mm lm)) rfl ?_
        refine q_ev_run 1 (S' := (830, [some (.ref 1000), some (.ref 0), some (.ref 56), some (.int x3)], [.ref 56, .long r257], qMM mc mm lm)) rfl ?_
        obtain ⟨r259, hf260, h⟩ := Option.bind_eq_some_iff.mp h
        try dsimp only at h
        refine q_ev_call (S' := (833, [some (.ref 1000), some (.ref 0), some (.ref 56), some (.int x3)], [.long r257], qMM mc mm lm)) rfl (by omega) (T_Mo_trace (by first | omega | decide) hf260) ?_
        refine q_ev_eq (S' := (833, [some (.ref 1000), some (.ref 0), some (.ref 56), some (.int x3)], [.long r259, .long r257], qMM mc mm lm)) rfl ?_
        refine q_ev_run 1 (S' := (834, [some (.ref 1000), some (.ref 0), some (.ref 56), some (.int x3)], [.int (lg_cmp r257 r259)], qMM mc mm lm)) rfl ?_
        by_cases hc261 : (lg_cmp r257 r259) = 0
        · rw [if_pos hc261] at h
          refine q_ev_brT hc261 (a := 839) (b := 837) rfl ?_
          refine q_ev_run 2 (S' := (18, [some (.ref 1000), some (.ref 0), some (.ref 56), some (.int (x3 + 5))], [], qMM mc mm lm)) rfl ?_
          exact ih mc mm lm (x3 + 5) _ h hr hk
        · rw [if_neg hc261] at h
          refine q_ev_brF hc261 (a := 839) (b := 837) rfl ?_
          refine q_ev_run 1 (S' := (838, [some (.ref 1000), some (.ref 0), some (.ref 56), some (.int x3)], [.int 0], qMM mc mm lm)) rfl ?_
          obtain rfl := (Option.some.inj h).symm
          rw [hr _ _ _ _ rfl]
          exact q_ev_ret rfl rfl
      rw [if_neg hc262] at h
      refine q_ev_sw (v := 839) (a := 839) (show q_sw (xs x3.toNatClampNeg &&& 31) 839 0 [156, 179, 192, 205, 238, 271, 294, 317, 350, 403, 436, 449, 482, 505, 518, 541, 584, 617, 630, 643, 666, 689, 723, 756, 779, 802, 825] = 839 from q_sw_nd (by show (xs x3.toNatClampNeg &&& 31) ∉ ([0, 1, 2, 3, 4, 5, 6, 7, 8, 9, 10, 11, 12, 13, 14, 15, 16, 17, 18, 19, 20, 21, 22, 23, 24, 25, 26] : List Int32); simp [hc12, hc20, hc28, hc38, hc48, hc56, hc64, hc74, hc90, hc102, hc110, hc120, hc128, hc136, hc146, hc160, hc172, hc180, hc188, hc198, hc206, hc216, hc228, hc238, hc248, hc256, hc262])) rfl rfl ?_
      refine q_ev_run 2 (S' := (18, [some (.ref 1000), some (.ref 0), some (.ref 56), some (.int (x3 + 5))], [], qMM mc mm lm)) rfl ?_
      exact ih mc mm lm (x3 + 5) _ h hr hk
