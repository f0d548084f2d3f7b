noncomputable def FL_Law_law_1000_18 (Ln : Nat) (xs : Nat → Int32) : Nat → (Nat → Nat → Int32) → (Nat → Nat → Int32) → (Nat → Int64) → Int32 → Option ((Int32 × (Nat → Nat → Int32) × (Nat → Nat → Int32) × (Nat → Int64)) ⊕ ((Nat → Nat → Int32) × (Nat → Nat → Int32) × (Nat → Int64)))
  | 0, _, _, _, _ => none
  | fu + 1, mc, mm, lm, x3 =>
    cond (Nat.ble Ln 1000000) (
      if (Int32.ofNat Ln - 5) < x3 then
        some (.inr (mc, mm, lm))
      else
        cond (q_in x3 Ln && Nat.ble Ln 1000000) (
          if (xs x3.toNatClampNeg &&& 31) = 0 then
            cond (q_in (x3 + 1) Ln && Nat.ble Ln 1000000) (
              Option.bind (F_AT_type mc (xs ((x3 + 1)).toNatClampNeg)) (fun (r5, m6) =>
                cond (q_in (x3 + 1) Ln && Nat.ble Ln 1000000) (
                  Option.bind (F_Mo_type mm (xs ((x3 + 1)).toNatClampNeg)) (fun (r9, m10) =>
                    if r5 = r9 then
                      FL_Law_law_1000_18 Ln xs fu m6 m10 lm (x3 + 5)
                    else
                      some (.inl (0, m6, m10, lm)))
                 ) none)
             ) none
          else
          if (xs x3.toNatClampNeg &&& 31) = 1 then
            Option.bind (F_AT_clear mc) (fun (r14, m15) =>
              Option.bind (F_Mo_clear mm) (fun (r17, m18) =>
                if r14 = r17 then
                  FL_Law_law_1000_18 Ln xs fu m15 m18 lm (x3 + 5)
                else
                  some (.inl (0, m15, m18, lm))))
          else
          if (xs x3.toNatClampNeg &&& 31) = 2 then
            Option.bind (F_AT_furrows mc) (fun (r22, m23) =>
              Option.bind (F_Mo_furrows mm) (fun (r25, m26) =>
                if r22 = r25 then
                  FL_Law_law_1000_18 Ln xs fu m23 m26 lm (x3 + 5)
                else
                  some (.inl (0, m23, m26, lm))))
          else
          if (xs x3.toNatClampNeg &&& 31) = 3 then
            cond (q_in (x3 + 1) Ln && Nat.ble Ln 1000000) (
              cond (q_in (x3 + 2) Ln && Nat.ble Ln 1000000) (
                Option.bind (F_AT_furrow mc (xs ((x3 + 1)).toNatClampNeg) (xs ((x3 + 2)).toNatClampNeg)) (fun r32 =>
                  cond (q_in (x3 + 1) Ln && Nat.ble Ln 1000000) (
                    cond (q_in (x3 + 2) Ln && Nat.ble Ln 1000000) (
                      Option.bind (F_Mo_furrow mm (xs ((x3 + 1)).toNatClampNeg) (xs ((x3 + 2)).toNatClampNeg)) (fun r36 =>
                        if r32 = r36 then
                          FL_Law_law_1000_18 Ln xs fu mc mm lm (x3 + 5)
                        else
                          some (.inl (0, mc, mm, lm)))
                     ) none
                   ) none)
               ) none
             ) none
          else
          if (xs x3.toNatClampNeg &&& 31) = 4 then
            cond (q_in (x3 + 1) Ln && Nat.ble Ln 1000000) (
              cond (q_in (x3 + 2) Ln && Nat.ble Ln 1000000) (
                Option.bind (F_AT_way mc (xs ((x3 + 1)).toNatClampNeg) (xs ((x3 + 2)).toNatClampNeg)) (fun r42 =>
                  cond (q_in (x3 + 1) Ln && Nat.ble Ln 1000000) (
                    cond (q_in (x3 + 2) Ln && Nat.ble Ln 1000000) (
                      Option.bind (F_Mo_way mm (xs ((x3 + 1)).toNatClampNeg) (xs ((x3 + 2)).toNatClampNeg)) (fun r46 =>
                        if r42 = r46 then
                          FL_Law_law_1000_18 Ln xs fu mc mm lm (x3 + 5)
                        else
                          some (.inl (0, mc, mm, lm)))
                     ) none
                   ) none)
               ) none
             ) none
          else
          if (xs x3.toNatClampNeg &&& 31) = 5 then
            cond (q_in (x3 + 1) Ln && Nat.ble Ln 1000000) (
              Option.bind (F_AT_sights mc (xs ((x3 + 1)).toNatClampNeg)) (fun r51 =>
                cond (q_in (x3 + 1) Ln && Nat.ble Ln 1000000) (
                  Option.bind (F_Mo_sights mm (xs ((x3 + 1)).toNatClampNeg)) (fun r54 =>
                    if r51 = r54 then
                      FL_Law_law_1000_18 Ln xs fu mc mm lm (x3 + 5)
                    else
                      some (.inl (0, mc, mm, lm)))
                 ) none)
             ) none
          else
          if (xs x3.toNatClampNeg &&& 31) = 6 then
            cond (q_in (x3 + 1) Ln && Nat.ble Ln 1000000) (
              Option.bind (F_AT_hedgehog mc (xs ((x3 + 1)).toNatClampNeg)) (fun r59 =>
                cond (q_in (x3 + 1) Ln && Nat.ble Ln 1000000) (
                  Option.bind (F_Mo_hedgehog mm (xs ((x3 + 1)).toNatClampNeg)) (fun r62 =>
                    if r59 = r62 then
                      FL_Law_law_1000_18 Ln xs fu mc mm lm (x3 + 5)
                    else
                      some (.inl (0, mc, mm, lm)))
                 ) none)
             ) none
          else
          if (xs x3.toNatClampNeg &&& 31) = 7 then
            cond (q_in (x3 + 1) Ln && Nat.ble Ln 1000000) (
              cond (q_in (x3 + 2) Ln && Nat.ble Ln 1000000) (
                Option.bind (F_AT_point mc (xs ((x3 + 1)).toNatClampNeg) (xs ((x3 + 2)).toNatClampNeg)) (fun r68 =>
                  cond (q_in (x3 + 1) Ln && Nat.ble Ln 1000000) (
                    cond (q_in (x3 + 2) Ln && Nat.ble Ln 1000000) (
                      Option.bind (F_Mo_point mm (xs ((x3 + 1)).toNatClampNeg) (xs ((x3 + 2)).toNatClampNeg)) (fun r72 =>
                        if r68 = r72 then
                          FL_Law_law_1000_18 Ln xs fu mc mm lm (x3 + 5)
                        else
                          some (.inl (0, mc, mm, lm)))
                     ) none
                   ) none)
               ) none
             ) none
          else
          if (xs x3.toNatClampNeg &&& 31) = 8 then
            cond (q_in (x3 + 1) Ln && Nat.ble Ln 1000000) (
              cond (q_in (x3 + 2) Ln && Nat.ble Ln 1000000) (
                cond (q_in (x3 + 3) Ln && Nat.ble Ln 1000000) (
                  cond (q_in (x3 + 4) Ln && Nat.ble Ln 1000000) (
                    Option.bind (F_AT_sits mc (xs ((x3 + 1)).toNatClampNeg) (xs ((x3 + 2)).toNatClampNeg) (xs ((x3 + 3)).toNatClampNeg) (xs ((x3 + 4)).toNatClampNeg)) (fun (r80, m81) =>
                      cond (q_in (x3 + 1) Ln && Nat.ble Ln 1000000) (
                        cond (q_in (x3 + 2) Ln && Nat.ble Ln 1000000) (
                          cond (q_in (x3 + 3) Ln && Nat.ble Ln 1000000) (
                            cond (q_in (x3 + 4) Ln && Nat.ble Ln 1000000) (
                              Option.bind (F_Mo_sits mm (xs ((x3 + 1)).toNatClampNeg) (xs ((x3 + 2)).toNatClampNeg) (xs ((x3 + 3)).toNatClampNeg) (xs ((x3 + 4)).toNatClampNeg)) (fun (r87, m88) =>
                                if r80 = r87 then
                                  FL_Law_law_1000_18 Ln xs fu m81 m88 lm (x3 + 5)
                                else
                                  some (.inl (0, m81, m88, lm)))
                             ) none
                           ) none
                         ) none
                       ) none)
                   ) none
                 ) none
               ) none
             ) none
          else
          if (xs x3.toNatClampNeg &&& 31) = 9 then
            cond (q_in (x3 + 1) Ln && Nat.ble Ln 1000000) (
              cond (q_in (x3 + 2) Ln && Nat.ble Ln 1000000) (
                Option.bind (F_AT_waits mc (xs ((x3 + 1)).toNatClampNeg) (xs ((x3 + 2)).toNatClampNeg)) (fun (r94, m95) =>
                  cond (q_in (x3 + 1) Ln && Nat.ble Ln 1000000) (
                    cond (q_in (x3 + 2) Ln && Nat.ble Ln 1000000) (
                      Option.bind (F_Mo_waits mm (xs ((x3 + 1)).toNatClampNeg) (xs ((x3 + 2)).toNatClampNeg)) (fun (r99, m100) =>
                        if r94 = r99 then
                          FL_Law_law_1000_18 Ln xs fu m95 m100 lm (x3 + 5)
                        else
                          some (.inl (0, m95, m100, lm)))
                     ) none
                   ) none)
               ) none
             ) none
          else
          if (xs x3.toNatClampNeg &&& 31) = 10 then
            Option.bind (F_AT_undo mc) (fun (r104, m105) =>
              Option.bind (F_Mo_undo mm) (fun (r107, m108) =>
                if r104 = r107 then
                  FL_Law_law_1000_18 Ln xs fu m105 m108 lm (x3 + 5)
                else
                  some (.inl (0, m105, m108, lm))))
          else
          if (xs x3.toNatClampNeg &&& 31) = 11 then
            cond (q_in (x3 + 1) Ln && Nat.ble Ln 1000000) (
              cond (q_in (x3 + 2) Ln && Nat.ble Ln 1000000) (
                Option.bind (F_AT_sat mc (xs ((x3 + 1)).toNatClampNeg) (xs ((x3 + 2)).toNatClampNeg)) (fun r114 =>
                  cond (q_in (x3 + 1) Ln && Nat.ble Ln 1000000) (
                    cond (q_in (x3 + 2) Ln && Nat.ble Ln 1000000) (
                      Option.bind (F_Mo_sat mm (xs ((x3 + 1)).toNatClampNeg) (xs ((x3 + 2)).toNatClampNeg)) (fun r118 =>
                        if r114 = r118 then
                          FL_Law_law_1000_18 Ln xs fu mc mm lm (x3 + 5)
                        else
                          some (.inl (0, mc, mm, lm)))
                     ) none
                   ) none)
               ) none
             ) none
          else
          if (xs x3.toNatClampNeg &&& 31) = 12 then
            cond (q_in (x3 + 1) Ln && Nat.ble Ln 1000000) (
              Option.bind (F_AT_race mc (xs ((x3 + 1)).toNatClampNeg)) (fun r123 =>
                cond (q_in (x3 + 1) Ln && Nat.ble Ln 1000000) (
                  Option.bind (F_Mo_race mm (xs ((x3 + 1)).toNatClampNeg)) (fun r126 =>
                    if r123 = r126 then
                      FL_Law_law_1000_18 Ln xs fu mc mm lm (x3 + 5)
                    else
                      some (.inl (0, mc, mm, lm)))
                 ) none)
             ) none
          else
          if (xs x3.toNatClampNeg &&& 31) = 13 then
            Option.bind (F_AT_one mc) (fun (r130, m131) =>
              Option.bind (F_Mo_one mm) (fun (r133, m134) =>
                if r130 = r133 then
                  FL_Law_law_1000_18 Ln xs fu m131 m134 lm (x3 + 5)
                else
                  some (.inl (0, m131, m134, lm))))
          else
          if (xs x3.toNatClampNeg &&& 31) = 14 then
            cond (q_in (x3 + 1) Ln && Nat.ble Ln 1000000) (
              Option.bind (F_AT_needed mc (xs ((x3 + 1)).toNatClampNeg)) (fun (r139, m140) =>
                cond (q_in (x3 + 1) Ln && Nat.ble Ln 1000000) (
                  Option.bind (F_Mo_needed mm (xs ((x3 + 1)).toNatClampNeg)) (fun (r143, m144) =>
                    if r139 = r143 then
                      FL_Law_law_1000_18 Ln xs fu m140 m144 lm (x3 + 5)
                    else
                      some (.inl (0, m140, m144, lm)))
                 ) none)
             ) none
          else
          if (xs x3.toNatClampNeg &&& 31) = 15 then
            cond (q_in (x3 + 1) Ln && Nat.ble Ln 1000000) (
              cond (q_in (x3 + 2) Ln && Nat.ble Ln 1000000) (
                cond (q_in (x3 + 3) Ln && Nat.ble Ln 1000000) (
                  Option.bind (F_AT_worst mc (xs ((x3 + 1)).toNatClampNeg) (xs ((x3 + 2)).toNatClampNeg) (xs ((x3 + 3)).toNatClampNeg)) (fun (r151, m152) =>
                    cond (q_in (x3 + 1) Ln && Nat.ble Ln 1000000) (
                      cond (q_in (x3 + 2) Ln && Nat.ble Ln 1000000) (
                        cond (q_in (x3 + 3) Ln && Nat.ble Ln 1000000) (
                          Option.bind (F_Mo_worst mm (xs ((x3 + 1)).toNatClampNeg) (xs ((x3 + 2)).toNatClampNeg) (xs ((x3 + 3)).toNatClampNeg)) (fun (r157, m158) =>
                            if r151 = r157 then
                              FL_Law_law_1000_18 Ln xs fu m152 m158 lm (x3 + 5)
                            else
                              some (.inl (0, m152, m158, lm)))
                         ) none
                       ) none
                     ) none)
                 ) none
               ) none
             ) none
          else
          if (xs x3.toNatClampNeg &&& 31) = 16 then
            cond (q_in (x3 + 1) Ln && Nat.ble Ln 1000000) (
              cond (q_in (x3 + 2) Ln && Nat.ble Ln 1000000) (
                Option.bind (F_AT_saw mc (xs ((x3 + 1)).toNatClampNeg) (xs ((x3 + 2)).toNatClampNeg)) (fun (r164, m165) =>
                  cond (q_in (x3 + 1) Ln && Nat.ble Ln 1000000) (
                    cond (q_in (x3 + 2) Ln && Nat.ble Ln 1000000) (
                      Option.bind (F_Mo_saw mm (xs ((x3 + 1)).toNatClampNeg) (xs ((x3 + 2)).toNatClampNeg)) (fun (r169, m170) =>
                        if r164 = r169 then
                          FL_Law_law_1000_18 Ln xs fu m165 m170 lm (x3 + 5)
                        else
                          some (.inl (0, m165, m170, lm)))
                     ) none
                   ) none)
               ) none
             ) none
          else
          if (xs x3.toNatClampNeg &&& 31) = 17 then
            Option.bind (F_AT_forget mc) (fun (r174, m175) =>
              Option.bind (F_Mo_forget mm) (fun (r177, m178) =>
                if r174 = r177 then
                  FL_Law_law_1000_18 Ln xs fu m175 m178 lm (x3 + 5)
                else
                  some (.inl (0, m175, m178, lm))))
          else
          if (xs x3.toNatClampNeg &&& 31) = 18 then
            Option.bind (F_AT_fits mc) (fun (r182, m183) =>
              Option.bind (F_Mo_fits mm) (fun (r185, m186) =>
                if r182 = r185 then
                  FL_Law_law_1000_18 Ln xs fu m183 m186 lm (x3 + 5)
                else
                  some (.inl (0, m183, m186, lm))))
          else
          if (xs x3.toNatClampNeg &&& 31) = 19 then
            cond (q_in (x3 + 1) Ln && Nat.ble Ln 1000000) (
              Option.bind (F_AT_sure mc (xs ((x3 + 1)).toNatClampNeg)) (fun (r191, m192) =>
                cond (q_in (x3 + 1) Ln && Nat.ble Ln 1000000) (
                  Option.bind (F_Mo_sure mm (xs ((x3 + 1)).toNatClampNeg)) (fun (r195, m196) =>
                    if r191 = r195 then
                      FL_Law_law_1000_18 Ln xs fu m192 m196 lm (x3 + 5)
                    else
                      some (.inl (0, m192, m196, lm)))
                 ) none)
             ) none
          else
          if (xs x3.toNatClampNeg &&& 31) = 20 then
            cond (q_in (x3 + 1) Ln && Nat.ble Ln 1000000) (
              Option.bind (F_AT_ask mc (xs ((x3 + 1)).toNatClampNeg)) (fun r201 =>
                cond (q_in (x3 + 1) Ln && Nat.ble Ln 1000000) (
                  Option.bind (F_Mo_ask mm (xs ((x3 + 1)).toNatClampNeg)) (fun r204 =>
                    if r201 = r204 then
                      FL_Law_law_1000_18 Ln xs fu mc mm lm (x3 + 5)
                    else
                      some (.inl (0, mc, mm, lm)))
                 ) none)
             ) none
          else
          if (xs x3.toNatClampNeg &&& 31) = 21 then
            cond (q_in (x3 + 1) Ln && Nat.ble Ln 1000000) (
              cond (q_in (x3 + 2) Ln && Nat.ble Ln 1000000) (
                Option.bind (F_AT_bet mc (xs ((x3 + 1)).toNatClampNeg) (xs ((x3 + 2)).toNatClampNeg)) (fun r210 =>
                  cond (q_in (x3 + 1) Ln && Nat.ble Ln 1000000) (
                    cond (q_in (x3 + 2) Ln && Nat.ble Ln 1000000) (
                      Option.bind (F_Mo_bet mm (xs ((x3 + 1)).toNatClampNeg) (xs ((x3 + 2)).toNatClampNeg)) (fun r214 =>
                        if (lg_cmp r210 r214) = 0 then
                          FL_Law_law_1000_18 Ln xs fu mc mm lm (x3 + 5)
                        else
                          some (.inl (0, mc, mm, lm)))
                     ) none
                   ) none)
               ) none
             ) none
          else
          if (xs x3.toNatClampNeg &&& 31) = 22 then
            cond (q_in (x3 + 1) Ln && Nat.ble Ln 1000000) (
              cond (q_in (x3 + 2) Ln && Nat.ble Ln 1000000) (
                Option.bind (F_AT_rate mc lm (xs ((x3 + 1)).toNatClampNeg) (xs ((x3 + 2)).toNatClampNeg)) (fun (r220, lm221) =>
                  cond (q_in (x3 + 1) Ln && Nat.ble Ln 1000000) (
                    cond (q_in (x3 + 2) Ln && Nat.ble Ln 1000000) (
                      Option.bind (F_Mo_rate mm lm221 (xs ((x3 + 1)).toNatClampNeg) (xs ((x3 + 2)).toNatClampNeg)) (fun (r225, lm226) =>
                        if r220 = r225 then
                          FL_Law_law_1000_18 Ln xs fu mc mm lm226 (x3 + 5)
                        else
                          some (.inl (0, mc, mm, lm226)))
                     ) none
                   ) none)
               ) none
             ) none
          else
          if (xs x3.toNatClampNeg &&& 31) = 23 then
            cond (q_in (x3 + 1) Ln && Nat.ble Ln 1000000) (
              Option.bind (F_AT_keep mc (xs ((x3 + 1)).toNatClampNeg)) (fun (r231, m232) =>
                cond (q_in (x3 + 1) Ln && Nat.ble Ln 1000000) (
                  Option.bind (F_Mo_keep mm (xs ((x3 + 1)).toNatClampNeg)) (fun (r235, m236) =>
                    if r231 = r235 then
                      FL_Law_law_1000_18 Ln xs fu m232 m236 lm (x3 + 5)
                    else
                      some (.inl (0, m232, m236, lm)))
                 ) none)
             ) none
          else
          if (xs x3.toNatClampNeg &&& 31) = 24 then
            cond (q_in (x3 + 1) Ln && Nat.ble Ln 1000000) (
              Option.bind (F_AT_back mc (xs ((x3 + 1)).toNatClampNeg)) (fun (r241, m242) =>
                cond (q_in (x3 + 1) Ln && Nat.ble Ln 1000000) (
                  Option.bind (F_Mo_back mm (xs ((x3 + 1)).toNatClampNeg)) (fun (r245, m246) =>
                    if r241 = r245 then
                      FL_Law_law_1000_18 Ln xs fu m242 m246 lm (x3 + 5)
                    else
                      some (.inl (0, m242, m246, lm)))
                 ) none)
             ) none
          else
          if (xs x3.toNatClampNeg &&& 31) = 25 then
            cond (q_in (x3 + 1) Ln && Nat.ble Ln 1000000) (
              Option.bind (F_AT_count mc (xs ((x3 + 1)).toNatClampNeg)) (fun r251 =>
                cond (q_in (x3 + 1) Ln && Nat.ble Ln 1000000) (
                  Option.bind (F_Mo_count mm (xs ((x3 + 1)).toNatClampNeg)) (fun r254 =>
                    if r251 = r254 then
                      FL_Law_law_1000_18 Ln xs fu mc mm lm (x3 + 5)
                    else
                      some (.inl (0, mc, mm, lm)))
                 ) none)
             ) none
          else
          if (xs x3.toNatClampNeg &&& 31) = 26 then
            Option.bind (F_AT_trace mc lm) (fun r258 =>
              Option.bind (F_Mo_trace mm lm) (fun r260 =>
                if (lg_cmp r258 r260) = 0 then
                  FL_Law_law_1000_18 Ln xs fu mc mm lm (x3 + 5)
                else
                  some (.inl (0, mc, mm, lm))))
          else
            FL_Law_law_1000_18 Ln xs fu mc mm lm (x3 + 5)
         ) none
     ) none
set_option maxHeartbeats 40000000 in
set_option maxRecDepth 20000 in
theorem TL_Law_law_1000_18 {Ln : Nat} {xs : Nat → Int32}  {d : Nat} (hd : 48 ≤ d) {r : Option Value × qM} : ∀ (fu : Nat) (mc : (Nat → Nat → Int32)) (mm : (Nat → Nat → Int32)) (lm : (Nat → Int64)) (x3 : Int32)  (o : (Int32 × (Nat → Nat → Int32) × (Nat → Nat → Int32) × (Nat → Int64)) ⊕ ((Nat → Nat → Int32) × (Nat → Nat → Int32) × (Nat → Int64))), FL_Law_law_1000_18 Ln xs fu mc mm lm x3 = some o → (∀ (rv : Int32) (mc1 : (Nat → Nat → Int32)) (mm1 : (Nat → Nat → Int32)) (lm1 : (Nat → Int64)), o = .inl (rv, mc1, mm1, lm1) → r = (some (.int rv), qMM mc1 mm1 lm1)) → (∀ (mc1 : (Nat → Nat → Int32)) (mm1 : (Nat → Nat → Int32)) (lm1 : (Nat → Int64)), o = .inr (mc1, mm1, lm1) → ∀ (u3 : Option Value), q_Ev (qXT Ln xs) d 171 (845, [some (.ref 1000), some (.ref 0), some (.ref 58), u3], [], qMM mc1 mm1 lm1) r) → q_Ev (qXT Ln xs) d 171 (18, [some (.ref 1000), some (.ref 0), some (.ref 58), some (.int x3)], [], qMM mc mm lm) r := by
  intro fu
  induction fu with
  | zero => intro mc mm lm x3 o h hr hk; cases h
  | succ fu ih =>
    intro mc mm lm x3 o h hr hk
    rw [FL_Law_law_1000_18] at h
    refine q_ev_run 2 (S' := (20, [some (.ref 1000), some (.ref 0), some (.ref 58), some (.int x3)], [.ref 1000, .int x3], qMM mc mm lm)) rfl ?_
    obtain ⟨hb1, h⟩ := q_cd h
    refine q_ev_chk (b := Nat.ble Ln 1000000) hb1 (S' := (21, [some (.ref 1000), some (.ref 0), some (.ref 58), some (.int x3)], [.int (Int32.ofNat Ln), .int x3], qMM mc mm lm)) rfl ?_
    refine q_ev_run 2 (S' := (23, [some (.ref 1000), some (.ref 0), some (.ref 58), some (.int x3)], [.int (Int32.ofNat Ln - 5), .int x3], qMM mc mm lm)) rfl ?_
    by_cases hc2 : (Int32.ofNat Ln - 5) < x3
    · rw [if_pos hc2] at h
      refine q_ev_brT hc2 (a := 845) (b := 26) rfl ?_
      obtain rfl := (Option.some.inj h).symm
      exact hk _ _ _ rfl (some (.int x3))
    · rw [if_neg hc2] at h
      refine q_ev_brF hc2 (a := 845) (b := 26) rfl ?_
      refine q_ev_run 2 (S' := (28, [some (.ref 1000), some (.ref 0), some (.ref 58), some (.int x3)], [.int x3, .ref 1000], qMM mc mm lm)) rfl ?_
      obtain ⟨hb3, h⟩ := q_cd h
      refine q_ev_chk (b := q_in x3 Ln && Nat.ble Ln 1000000) hb3 (S' := (29, [some (.ref 1000), some (.ref 0), some (.ref 58), some (.int x3)], [.int (xs x3.toNatClampNeg)], qMM mc mm lm)) rfl ?_
      refine q_ev_run 2 (S' := (32, [some (.ref 1000), some (.ref 0), some (.ref 58), some (.int x3)], [.int (xs x3.toNatClampNeg &&& 31)], qMM mc mm lm)) rfl ?_
      by_cases hc13 : (xs x3.toNatClampNeg &&& 31) = 0
      · rw [if_pos hc13] at h
        refine q_ev_sw (v := 156) (a := 156) (show q_sw (xs x3.toNatClampNeg &&& 31) 839 0 [156, 179, 192, 205, 238, 271, 294, 317, 350, 403, 436, 449, 482, 505, 518, 541, 584, 617, 630, 643, 666, 689, 723, 756, 779, 802, 825] = 156 by rw [hc13]; rfl) rfl rfl ?_
        refine q_ev_run 5 (S' := (161, [some (.ref 1000), some (.ref 0), some (.ref 58), some (.int x3)], [.int (x3 + 1), .ref 1000, .ref 0], qMM mc mm lm)) rfl ?_
        obtain ⟨hb4, h⟩ := q_cd h
        refine q_ev_chk (b := q_in (x3 + 1) Ln && Nat.ble Ln 1000000) hb4 (S' := (162, [some (.ref 1000), some (.ref 0), some (.ref 58), some (.int x3)], [.int (xs ((x3 + 1)).toNatClampNeg), .ref 0], qMM mc mm lm)) rfl ?_
        obtain ⟨⟨r5, m6⟩, hf7, h⟩ := Option.bind_eq_some_iff.mp h
        try dsimp only at h
        refine q_ev_call (S' := (165, [some (.ref 1000), some (.ref 0), some (.ref 58), some (.int x3)], [], qMM mc mm lm)) rfl (by omega) (T_AT_type (by first | omega | decide) hf7) ?_
        refine q_ev_eq (S' := (165, [some (.ref 1000), some (.ref 0), some (.ref 58), some (.int x3)], [.int r5], qMM m6 mm lm)) rfl ?_
        refine q_ev_run 5 (S' := (170, [some (.ref 1000), some (.ref 0), some (.ref 58), some (.int x3)], [.int (x3 + 1), .ref 1000, .ref 58, .int r5], qMM m6 mm lm)) rfl ?_
        obtain ⟨hb8, h⟩ := q_cd h
        refine q_ev_chk (b := q_in (x3 + 1) Ln && Nat.ble Ln 1000000) hb8 (S' := (171, [some (.ref 1000), some (.ref 0), some (.ref 58), some (.int x3)], [.int (xs ((x3 + 1)).toNatClampNeg), .ref 58, .int r5], qMM m6 mm lm)) rfl ?_
        obtain ⟨⟨r9, m10⟩, hf11, h⟩ := Option.bind_eq_some_iff.mp h
        try dsimp only at h
        refine q_ev_call (S' := (174, [some (.ref 1000), some (.ref 0), some (.ref 58), some (.int x3)], [.int r5], qMM m6 mm lm)) rfl (by omega) (T_Mo_type (by first | omega | decide) hf11) ?_
        refine q_ev_eq (S' := (174, [some (.ref 1000), some (.ref 0), some (.ref 58), some (.int x3)], [.int r9, .int r5], qMM m6 m10 lm)) rfl ?_
        by_cases hc12 : r5 = r9
        · rw [if_pos hc12] at h
          refine q_ev_brT hc12 (a := 839) (b := 177) rfl ?_
          refine q_ev_run 2 (S' := (18, [some (.ref 1000), some (.ref 0), some (.ref 58), some (.int (x3 + 5))], [], qMM m6 m10 lm)) rfl ?_
          exact ih m6 m10 lm (x3 + 5) _ h hr hk
        · rw [if_neg hc12] at h
          refine q_ev_brF hc12 (a := 839) (b := 177) rfl ?_
          refine q_ev_run 1 (S' := (178, [some (.ref 1000), some (.ref 0), some (.ref 58), some (.int x3)], [.int 0], qMM m6 m10 lm)) rfl ?_
          obtain rfl := (Option.some.inj h).symm
          rw [hr _ _ _ _ rfl]
          exact q_ev_ret rfl rfl
      rw [if_neg hc13] at h
      by_cases hc21 : (xs x3.toNatClampNeg &&& 31) = 1
      · rw [if_pos hc21] at h
        refine q_ev_sw (v := 179) (a := 179) (show q_sw (xs x3.toNatClampNeg &&& 31) 839 0 [156, 179, 192, 205, 238, 271, 294, 317, 350, 403, 436, 449, 482, 505, 518, 541, 584, 617, 630, 643, 666, 689, 723, 756, 779, 802, 825] = 179 by rw [hc21]; rfl) rfl rfl ?_
        refine q_ev_run 1 (S' := (180, [some (.ref 1000), some (.ref 0), some (.ref 58), some (.int x3)], [.ref 0], qMM mc mm lm)) rfl ?_
        obtain ⟨⟨r14, m15⟩, hf16, h⟩ := Option.bind_eq_some_iff.mp h
        try dsimp only at h
        refine q_ev_call (S' := (183, [some (.ref 1000), some (.ref 0), some (.ref 58), some (.int x3)], [], qMM mc mm lm)) rfl (by omega) (T_AT_clear (by first | omega | decide) hf16) ?_
        refine q_ev_eq (S' := (183, [some (.ref 1000), some (.ref 0), some (.ref 58), some (.int x3)], [.int r14], qMM m15 mm lm)) rfl ?_
        refine q_ev_run 1 (S' := (184, [some (.ref 1000), some (.ref 0), some (.ref 58), some (.int x3)], [.ref 58, .int r14], qMM m15 mm lm)) rfl ?_
        obtain ⟨⟨r17, m18⟩, hf19, h⟩ := Option.bind_eq_some_iff.mp h
        try dsimp only at h
        refine q_ev_call (S' := (187, [some (.ref 1000), some (.ref 0), some (.ref 58), some (.int x3)], [.int r14], qMM m15 mm lm)) rfl (by omega) (T_Mo_clear (by first | omega | decide) hf19) ?_
        refine q_ev_eq (S' := (187, [some (.ref 1000), some (.ref 0), some (.ref 58), some (.int x3)], [.int r17, .int r14], qMM m15 m18 lm)) rfl ?_
        by_cases hc20 : r14 = r17
        · rw [if_pos hc20] at h
          refine q_ev_brT hc20 (a := 839) (b := 190) rfl ?_
          refine q_ev_run 2 (S' := (18, [some (.ref 1000), some (.ref 0), some (.ref 58), some (.int (x3 + 5))], [], qMM m15 m18 lm)) rfl ?_
          exact ih m15 m18 lm (x3 + 5) _ h hr hk
        · rw [if_neg hc20] at h
          refine q_ev_brF hc20 (a := 839) (b := 190) rfl ?_
          refine q_ev_run 1 (S' := (191, [some (.ref 1000), some (.ref 0), some (.ref 58), some (.int x3)], [.int 0], qMM m15 m18 lm)) rfl ?_
          obtain rfl := (Option.some.inj h).symm
          rw [hr _ _ _ _ rfl]
          exact q_ev_ret rfl rfl
      rw [if_neg hc21] at h
      by_cases hc29 : (xs x3.toNatClampNeg &&& 31) = 2
      · rw [if_pos hc29] at h
        refine q_ev_sw (v := 192) (a := 192) (show q_sw (xs x3.toNatClampNeg &&& 31) 839 0 [156, 179, 192, 205, 238, 271, 294, 317, 350, 403, 436, 449, 482, 505, 518, 541, 584, 617, 630, 643, 666, 689, 723, 756, 779, 802, 825] = 192 by rw [hc29]; rfl) rfl rfl ?_
        refine q_ev_run 1 (S' := (193, [some (.ref 1000), some (.ref 0), some (.ref 58), some (.int x3)], [.ref 0], qMM mc mm lm)) rfl ?_
        obtain ⟨⟨r22, m23⟩, hf24, h⟩ := Option.bind_eq_some_iff.mp h
        try dsimp only at h
        refine q_ev_call (S' := (196, [some (.ref 1000), some (.ref 0), some (.ref 58), some (.int x3)], [], qMM mc mm lm)) rfl (by omega) (T_AT_furrows (by first | omega | decide) hf24) ?_
        refine q_ev_eq (S' := (196, [some (.ref 1000), some (.ref 0), some (.ref 58), some (.int x3)], [.int r22], qMM m23 mm lm)) rfl ?_
        refine q_ev_run 1 (S' := (197, [some (.ref 1000), some (.ref 0), some (.ref 58), some (.int x3)], [.ref 58, .int r22], qMM m23 mm lm)) rfl ?_
        obtain ⟨⟨r25, m26⟩, hf27, h⟩ := Option.bind_eq_some_iff.mp h
        try dsimp only at h
        refine q_ev_call (S' := (200, [some (.ref 1000), some (.ref 0), some (.ref 58), some (.int x3)], [.int r22], qMM m23 mm lm)) rfl (by omega) (T_Mo_furrows (by first | omega | decide) hf27) ?_
        refine q_ev_eq (S' := (200, [some (.ref 1000), some (.ref 0), some (.ref 58), some (.int x3)], [.int r25, .int r22], qMM m23 m26 lm)) rfl ?_
        by_cases hc28 : r22 = r25
        · rw [if_pos hc28] at h
          refine q_ev_brT hc28 (a := 839) (b := 203) rfl ?_
          refine q_ev_run 2 (S' := (18, [some (.ref 1000), some (.ref 0), some (.ref 58), some (.int (x3 + 5))], [], qMM m23 m26 lm)) rfl ?_
          exact ih m23 m26 lm (x3 + 5) _ h hr hk
        · rw [if_neg hc28] at h
          refine q_ev_brF hc28 (a := 839) (b := 203) rfl ?_
          refine q_ev_run 1 (S' := (204, [some (.ref 1000), some (.ref 0), some (.ref 58), some (.int x3)], [.int 0], qMM m23 m26 lm)) rfl ?_
          obtain rfl := (Option.some.inj h).symm
          rw [hr _ _ _ _ rfl]
          exact q_ev_ret rfl rfl
      rw [if_neg hc29] at h
      by_cases hc39 : (xs x3.toNatClampNeg &&& 31) = 3
      · rw [if_pos hc39] at h
        refine q_ev_sw (v := 205) (a := 205) (show q_sw (xs x3.toNatClampNeg &&& 31) 839 0 [156, 179, 192, 205, 238, 271, 294, 317, 350, 403, 436, 449, 482, 505, 518, 541, 584, 617, 630, 643, 666, 689, 723, 756, 779, 802, 825] = 205 by rw [hc39]; rfl) rfl rfl ?_
        refine q_ev_run 5 (S' := (210, [some (.ref 1000), some (.ref 0), some (.ref 58), some (.int x3)], [.int (x3 + 1), .ref 1000, .ref 0], qMM mc mm lm)) rfl ?_
        obtain ⟨hb30, h⟩ := q_cd h
        refine q_ev_chk (b := q_in (x3 + 1) Ln && Nat.ble Ln 1000000) hb30 (S' := (211, [some (.ref 1000), some (.ref 0), some (.ref 58), some (.int x3)], [.int (xs ((x3 + 1)).toNatClampNeg), .ref 0], qMM mc mm lm)) rfl ?_
        refine q_ev_run 4 (S' := (215, [some (.ref 1000), some (.ref 0), some (.ref 58), some (.int x3)], [.int (x3 + 2), .ref 1000, .int (xs ((x3 + 1)).toNatClampNeg), .ref 0], qMM mc mm lm)) rfl ?_
        obtain ⟨hb31, h⟩ := q_cd h
        refine q_ev_chk (b := q_in (x3 + 2) Ln && Nat.ble Ln 1000000) hb31 (S' := (216, [some (.ref 1000), some (.ref 0), some (.ref 58), some (.int x3)], [.int (xs ((x3 + 2)).toNatClampNeg), .int (xs ((x3 + 1)).toNatClampNeg), .ref 0], qMM mc mm lm)) rfl ?_
        obtain ⟨r32, hf33, h⟩ := Option.bind_eq_some_iff.mp h
        try dsimp only at h
        refine q_ev_call (S' := (219, [some (.ref 1000), some (.ref 0), some (.ref 58), some (.int x3)], [], qMM mc mm lm)) rfl (by omega) (T_AT_furrow (by first | omega | decide) hf33) ?_
        refine q_ev_eq (S' := (219, [some (.ref 1000), some (.ref 0), some (.ref 58), some (.int x3)], [.int r32], qMM mc mm lm)) rfl ?_
        refine q_ev_run 5 (S' := (224, [some (.ref 1000), some (.ref 0), some (.ref 58), some (.int x3)], [.int (x3 + 1), .ref 1000, .ref 58, .int r32], qMM mc mm lm)) rfl ?_
        obtain ⟨hb34, h⟩ := q_cd h
        refine q_ev_chk (b := q_in (x3 + 1) Ln && Nat.ble Ln 1000000) hb34 (S' := (225, [some (.ref 1000), some (.ref 0), some (.ref 58), some (.int x3)], [.int (xs ((x3 + 1)).toNatClampNeg), .ref 58, .int r32], qMM mc mm lm)) rfl ?_
        refine q_ev_run 4 (S' := (229, [some (.ref 1000), some (.ref 0), some (.ref 58), some (.int x3)], [.int (x3 + 2), .ref 1000, .int (xs ((x3 + 1)).toNatClampNeg), .ref 58, .int r32], qMM mc mm lm)) rfl ?_
        obtain ⟨hb35, h⟩ := q_cd h
        refine q_ev_chk (b := q_in (x3 + 2) Ln && Nat.ble Ln 1000000) hb35 (S' := (230, [some (.ref 1000), some (.ref 0), some (.ref 58), some (.int x3)], [.int (xs ((x3 + 2)).toNatClampNeg), .int (xs ((x3 + 1)).toNatClampNeg), .ref 58, .int r32], qMM mc mm lm)) rfl ?_
        obtain ⟨r36, hf37, h⟩ := Option.bind_eq_some_iff.mp h
        try dsimp only at h
        refine q_ev_call (S' := (233, [some (.ref 1000), some (.ref 0), some (.ref 58), some (.int x3)], [.int r32], qMM mc mm lm)) rfl (by omega) (T_Mo_furrow (by first | omega | decide) hf37) ?_
        refine q_ev_eq (S' := (233, [some (.ref 1000), some (.ref 0), some (.ref 58), some (.int x3)], [.int r36, .int r32], qMM mc mm lm)) rfl ?_
        by_cases hc38 : r32 = r36
        · rw [if_pos hc38] at h
          refine q_ev_brT hc38 (a := 839) (b := 236) rfl ?_
          refine q_ev_run 2 (S' := (18, [some (.ref 1000), some (.ref 0), some (.ref 58), some (.int (x3 + 5))], [], qMM mc mm lm)) rfl ?_
          exact ih mc mm lm (x3 + 5) _ h hr hk
        · rw [if_neg hc38] at h
          refine q_ev_brF hc38 (a := 839) (b := 236) rfl ?_
          refine q_ev_run 1 (S' := (237, [some (.ref 1000), some (.ref 0), some (.ref 58), some (.int x3)], [.int 0], qMM mc mm lm)) rfl ?_
          obtain rfl := (Option.some.inj h).symm
          rw [hr _ _ _ _ rfl]
          exact q_ev_ret rfl rfl
      rw [if_neg hc39] at h
      by_cases hc49 : (xs x3.toNatClampNeg &&& 31) = 4
      · rw [if_pos hc49] at h
        refine q_ev_sw (v := 238) (a := 238) (show q_sw (xs x3.toNatClampNeg &&& 31) 839 0 [156, 179, 192, 205, 238, 271, 294, 317, 350, 403, 436, 449, 482, 505, 518, 541, 584, 617, 630, 643, 666, 689, 723, 756, 779, 802, 825] = 238 by rw [hc49]; rfl) rfl rfl ?_
        refine q_ev_run 5 (S' := (243, [some (.ref 1000), some (.ref 0), some (.ref 58), some (.int x3)], [.int (x3 + 1), .ref 1000, .ref 0], qMM mc mm lm)) rfl ?_
        obtain ⟨hb40, h⟩ := q_cd h
        refine q_ev_chk (b := q_in (x3 + 1) Ln && Nat.ble Ln 1000000) hb40 (S' := (244, [some (.ref 1000), some (.ref 0), some (.ref 58), some (.int x3)], [.int (xs ((x3 + 1)).toNatClampNeg), .ref 0], qMM mc mm lm)) rfl ?_
        refine q_ev_run 4 (S' := (248, [some (.ref 1000), some (.ref 0), some (.ref 58), some (.int x3)], [.int (x3 + 2), .ref 1000, .int (xs ((x3 + 1)).toNatClampNeg), .ref 0], qMM mc mm lm)) rfl ?_
        obtain ⟨hb41, h⟩ := q_cd h
        refine q_ev_chk (b := q_in (x3 + 2) Ln && Nat.ble Ln 1000000) hb41 (S' := (249, [some (.ref 1000), some (.ref 0), some (.ref 58), some (.int x3)], [.int (xs ((x3 + 2)).toNatClampNeg), .int (xs ((x3 + 1)).toNatClampNeg), .ref 0], qMM mc mm lm)) rfl ?_
        obtain ⟨r42, hf43, h⟩ := Option.bind_eq_some_iff.mp h
        try dsimp only at h
        refine q_ev_call (S' := (252, [some (.ref 1000), some (.ref 0), some (.ref 58), some (.int x3)], [], qMM mc mm lm)) rfl (by omega) (T_AT_way (by first | omega | decide) hf43) ?_
        refine q_ev_eq (S' := (252, [some (.ref 1000), some (.ref 0), some (.ref 58), some (.int x3)], [.int r42], qMM mc mm lm)) rfl ?_
        refine q_ev_run 5 (S' := (257, [some (.ref 1000), some (.ref 0), some (.ref 58), some (.int x3)], [.int (x3 + 1), .ref 1000, .ref 58, .int r42], qMM mc mm lm)) rfl ?_
        obtain ⟨hb44, h⟩ := q_cd h
        refine q_ev_chk (b := q_in (x3 + 1) Ln && Nat.ble Ln 1000000) hb44 (S' := (258, [some (.ref 1000), some (.ref 0), some (.ref 58), some (.int x3)], [.int (xs ((x3 + 1)).toNatClampNeg), .ref 58, .int r42], qMM mc mm lm)) rfl ?_
        refine q_ev_run 4 (S' := (262, [some (.ref 1000), some (.ref 0), some (.ref 58), some (.int x3)], [.int (x3 + 2), .ref 1000, .int (xs ((x3 + 1)).toNatClampNeg), .ref 58, .int r42], qMM mc mm lm)) rfl ?_
        obtain ⟨hb45, h⟩ := q_cd h
        refine q_ev_chk (b := q_in (x3 + 2) Ln && Nat.ble Ln 1000000) hb45 (S' := (263, [some (.ref 1000), some (.ref 0), some (.ref 58), some (.int x3)], [.int (xs ((x3 + 2)).toNatClampNeg), .int (xs ((x3 + 1)).toNatClampNeg), .ref 58, .int r42], qMM mc mm lm)) rfl ?_
        obtain ⟨r46, hf47, h⟩ := Option.bind_eq_some_iff.mp h
        try dsimp only at h
        refine q_ev_call (S' := (266, [some (.ref 1000), some (.ref 0), some (.ref 58), some (.int x3)], [.int r42], qMM mc mm lm)) rfl (by omega) (T_Mo_way (by first | omega | decide) hf47) ?_
        refine q_ev_eq (S' := (266, [some (.ref 1000), some (.ref 0), some (.ref 58), some (.int x3)], [.int r46, .int r42], qMM mc mm lm)) rfl ?_
        by_cases hc48 : r42 = r46
        · rw [if_pos hc48] at h
          refine q_ev_brT hc48 (a := 839) (b := 269) rfl ?_
          refine q_ev_run 2 (S' := (18, [some (.ref 1000), some (.ref 0), some (.ref 58), some (.int (x3 + 5))], [], qMM mc mm lm)) rfl ?_
          exact ih mc mm lm (x3 + 5) _ h hr hk
        · rw [if_neg hc48] at h
          refine q_ev_brF hc48 (a := 839) (b := 269) rfl ?_
          refine q_ev_run 1 (S' := (270, [some (.ref 1000), some (.ref 0), some (.ref 58), some (.int x3)], [.int 0], qMM mc mm lm)) rfl ?_
          obtain rfl := (Option.some.inj h).symm
          rw [hr _ _ _ _ rfl]
          exact q_ev_ret rfl rfl
      rw [if_neg hc49] at h
      by_cases hc57 : (xs x3.toNatClampNeg &&& 31) = 5
      · rw [if_pos hc57] at h
        refine q_ev_sw (v := 271) (a := 271) (show q_sw (xs x3.toNatClampNeg &&& 31) 839 0 [156, 179, 192, 205, 238, 271, 294, 317, 350, 403, 436, 449, 482, 505, 518, 541, 584, 617, 630, 643, 666, 689, 723, 756, 779, 802, 825] = 271 by rw [hc57]; rfl) rfl rfl ?_
        refine q_ev_run 5 (S' := (276, [some (.ref 1000), some (.ref 0), some (.ref 58), some (.int x3)], [.int (x3 + 1), .ref 1000, .ref 0], qMM mc mm lm)) rfl ?_
        obtain ⟨hb50, h⟩ := q_cd h
        refine q_ev_chk (b := q_in (x3 + 1) Ln && Nat.ble Ln 1000000) hb50 (S' := (277, [some (.ref 1000), some (.ref 0), some (.ref 58), some (.int x3)], [.int (xs ((x3 + 1)).toNatClampNeg), .ref 0], qMM mc mm lm)) rfl ?_
        obtain ⟨r51, hf52, h⟩ := Option.bind_eq_some_iff.mp h
        try dsimp only at h
        refine q_ev_call (S' := (280, [some (.ref 1000), some (.ref 0), some (.ref 58), some (.int x3)], [], qMM mc mm lm)) rfl (by omega) (T_AT_sights (by first | omega | decide) hf52) ?_
        refine q_ev_eq (S' := (280, [some (.ref 1000), some (.ref 0), some (.ref 58), some (.int x3)], [.int r51], qMM mc mm lm)) rfl ?_
        refine q_ev_run 5 (S' := (285, [some (.ref 1000), some (.ref 0), some (.ref 58), some (.int x3)], [.int (x3 + 1), .ref 1000, .ref 58, .int r51], qMM mc mm lm)) rfl ?_
        obtain ⟨hb53, h⟩ := q_cd h
        refine q_ev_chk (b := q_in (x3 + 1) Ln && Nat.ble Ln 1000000) hb53 (S' := (286, [some (.ref 1000), some (.ref 0), some (.ref 58), some (.int x3)], [.int (xs ((x3 + 1)).toNatClampNeg), .ref 58, .int r51], qMM mc mm lm)) rfl ?_
        obtain ⟨r54, hf55, h⟩ := Option.bind_eq_some_iff.mp h
        try dsimp only at h
        refine q_ev_call (S' := (289, [some (.ref 1000), some (.ref 0), some (.ref 58), some (.int x3)], [.int r51], qMM mc mm lm)) rfl (by omega) (T_Mo_sights (by first | omega | decide) hf55) ?_
        refine q_ev_eq (S' := (289, [some (.ref 1000), some (.ref 0), some (.ref 58), some (.int x3)], [.int r54, .int r51], qMM mc mm lm)) rfl ?_
        by_cases hc56 : r51 = r54
        · rw [if_pos hc56] at h
          refine q_ev_brT hc56 (a := 839) (b := 292) rfl ?_
          refine q_ev_run 2 (S' := (18, [some (.ref 1000), some (.ref 0), some (.ref 58), some (.int (x3 + 5))], [], qMM mc mm lm)) rfl ?_
          exact ih mc mm lm (x3 + 5) _ h hr hk
        · rw [if_neg hc56] at h
          refine q_ev_brF hc56 (a := 839) (b := 292) rfl ?_
          refine q_ev_run 1 (S' := (293, [some (.ref 1000), some (.ref 0), some (.ref 58), some (.int x3)], [.int 0], qMM mc mm lm)) rfl ?_
          obtain rfl := (Option.some.inj h).symm
          rw [hr _ _ _ _ rfl]
          exact q_ev_ret rfl rfl
      rw [if_neg hc57] at h
      by_cases hc65 : (xs x3.toNatClampNeg &&& 31) = 6
      · rw [if_pos hc65] at h
        refine q_ev_sw (v := 294) (a := 294) (show q_sw (xs x3.toNatClampNeg &&& 31) 839 0 [156, 179, 192, 205, 238, 271, 294, 317, 350, 403, 436, 449, 482, 505, 518, 541, 584, 617, 630, 643, 666, 689, 723, 756, 779, 802, 825] = 294 by rw [hc65]; rfl) rfl rfl ?_
        refine q_ev_run 5 (S' := (299, [some (.ref 1000), some (.ref 0), some (.ref 58), some (.int x3)], [.int (x3 + 1), .ref 1000, .ref 0], qMM mc mm lm)) rfl ?_
        obtain ⟨hb58, h⟩ := q_cd h
        refine q_ev_chk (b := q_in (x3 + 1) Ln && Nat.ble Ln 1000000) hb58 (S' := (300, [some (.ref 1000), some (.ref 0), some (.ref 58), some (.int x3)], [.int (xs ((x3 + 1)).toNatClampNeg), .ref 0], qMM mc mm lm)) rfl ?_
        obtain ⟨r59, hf60, h⟩ := Option.bind_eq_some_iff.mp h
        try dsimp only at h
        refine q_ev_call (S' := (303, [some (.ref 1000), some (.ref 0), some (.ref 58), some (.int x3)], [], qMM mc mm lm)) rfl (by omega) (T_AT_hedgehog (by first | omega | decide) hf60) ?_
        refine q_ev_eq (S' := (303, [some (.ref 1000), some (.ref 0), some (.ref 58), some (.int x3)], [.int r59], qMM mc mm lm)) rfl ?_
        refine q_ev_run 5 (S' := (308, [some (.ref 1000), some (.ref 0), some (.ref 58), some (.int x3)], [.int (x3 + 1), .ref 1000, .ref 58, .int r59], qMM mc mm lm)) rfl ?_
        obtain ⟨hb61, h⟩ := q_cd h
        refine q_ev_chk (b := q_in (x3 + 1) Ln && Nat.ble Ln 1000000) hb61 (S' := (309, [some (.ref 1000), some (.ref 0), some (.ref 58), some (.int x3)], [.int (xs ((x3 + 1)).toNatClampNeg), .ref 58, .int r59], qMM mc mm lm)) rfl ?_
        obtain ⟨r62, hf63, h⟩ := Option.bind_eq_some_iff.mp h
        try dsimp only at h
        refine q_ev_call (S' := (312, [some (.ref 1000), some (.ref 0), some (.ref 58), some (.int x3)], [.int r59], qMM mc mm lm)) rfl (by omega) (T_Mo_hedgehog (by first | omega | decide) hf63) ?_
        refine q_ev_eq (S' := (312, [some (.ref 1000), some (.ref 0), some (.ref 58), some (.int x3)], [.int r62, .int r59], qMM mc mm lm)) rfl ?_
        by_cases hc64 : r59 = r62
        · rw [if_pos hc64] at h
          refine q_ev_brT hc64 (a := 839) (b := 315) rfl ?_
          refine q_ev_run 2 (S' := (18, [some (.ref 1000), some (.ref 0), some (.ref 58), some (.int (x3 + 5))], [], qMM mc mm lm)) rfl ?_
          exact ih mc mm lm (x3 + 5) _ h hr hk
        · rw [if_neg hc64] at h
          refine q_ev_brF hc64 (a := 839) (b := 315) rfl ?_
          refine q_ev_run 1 (S' := (316, [some (.ref 1000), some (.ref 0), some (.ref 58), some (.int x3)], [.int 0], qMM mc mm lm)) rfl ?_
          obtain rfl := (Option.some.inj h).symm
          rw [hr _ _ _ _ rfl]
          exact q_ev_ret rfl rfl
      rw [if_neg hc65] at h
      by_cases hc75 : (xs x3.toNatClampNeg &&& 31) = 7
      · rw [if_pos hc75] at h
        refine q_ev_sw (v := 317) (a := 317) (show q_sw (xs x3.toNatClampNeg &&& 31) 839 0 [156, 179, 192, 205, 238, 271, 294, 317, 350, 403, 436, 449, 482, 505, 518, 541, 584, 617, 630, 643, 666, 689, 723, 756, 779, 802, 825] = 317 by rw [hc75]; rfl) rfl rfl ?_
        refine q_ev_run 5 (S' := (322, [some (.ref 1000), some (.ref 0), some (.ref 58), some (.int x3)], [.int (x3 + 1), .ref 1000, .ref 0], qMM mc mm lm)) rfl ?_
        obtain ⟨hb66, h⟩ := q_cd h
        refine q_ev_chk (b := q_in (x3 + 1) Ln && Nat.ble Ln 1000000) hb66 (S' := (323, [some (.ref 1000), some (.ref 0), some (.ref 58), some (.int x3)], [.int (xs ((x3 + 1)).toNatClampNeg), .ref 0], qMM mc mm lm)) rfl ?_
        refine q_ev_run 4 (S' := (327, [some (.ref 1000), some (.ref 0), some (.ref 58), some (.int x3)], [.int (x3 + 2), .ref 1000, .int (xs ((x3 + 1)).toNatClampNeg), .ref 0], qMM mc mm lm)) rfl ?_
        obtain ⟨hb67, h⟩ := q_cd h
        refine q_ev_chk (b := q_in (x3 + 2) Ln && Nat.ble Ln 1000000) hb67 (S' := (328, [some (.ref 1000), some (.ref 0), some (.ref 58), some (.int x3)], [.int (xs ((x3 + 2)).toNatClampNeg), .int (xs ((x3 + 1)).toNatClampNeg), .ref 0], qMM mc mm lm)) rfl ?_
        obtain ⟨r68, hf69, h⟩ := Option.bind_eq_some_iff.mp h
        try dsimp only at h
        refine q_ev_call (S' := (331, [some (.ref 1000), some (.ref 0), some (.ref 58), some (.int x3)], [], qMM mc mm lm)) rfl (by omega) (T_AT_point (by first | omega | decide) hf69) ?_
        refine q_ev_eq (S' := (331, [some (.ref 1000), some (.ref 0), some (.ref 58), some (.int x3)], [.int r68], qMM mc mm lm)) rfl ?_
        refine q_ev_run 5 (S' := (336, [some (.ref 1000), some (.ref 0), some (.ref 58), some (.int x3)], [.int (x3 + 1), .ref 1000, .ref 58, .int r68], qMM mc mm lm)) rfl ?_
        obtain ⟨hb70, h⟩ := q_cd h
        refine q_ev_chk (b := q_in (x3 + 1) Ln && Nat.ble Ln 1000000) hb70 (S' := (337, [some (.ref 1000), some (.ref 0), some (.ref 58), some (.int x3)], [.int (xs ((x3 + 1)).toNatClampNeg), .ref 58, .int r68], qMM mc mm lm)) rfl ?_
        refine q_ev_run 4 (S' := (341, [some (.ref 1000), some (.ref 0), some (.ref 58), some (.int x3)], [.int (x3 + 2), .ref 1000, .int (xs ((x3 + 1)).toNatClampNeg), .ref 58, .int r68], qMM mc mm lm)) rfl ?_
        obtain ⟨hb71, h⟩ := q_cd h
        refine q_ev_chk (b := q_in (x3 + 2) Ln && Nat.ble Ln 1000000) hb71 (S' := (342, [some (.ref 1000), some (.ref 0), some (.ref 58), some (.int x3)], [.int (xs ((x3 + 2)).toNatClampNeg), .int (xs ((x3 + 1)).toNatClampNeg), .ref 58, .int r68], qMM mc mm lm)) rfl ?_
        obtain ⟨r72, hf73, h⟩ := Option.bind_eq_some_iff.mp h
        try dsimp only at h
        refine q_ev_call (S' := (345, [some (.ref 1000), some (.ref 0), some (.ref 58), some (.int x3)], [.int r68], qMM mc mm lm)) rfl (by omega) (T_Mo_point (by first | omega | decide) hf73) ?_
        refine q_ev_eq (S' := (345, [some (.ref 1000), some (.ref 0), some (.ref 58), some (.int x3)], [.int r72, .int r68], qMM mc mm lm)) rfl ?_
        by_cases hc74 : r68 = r72
        · rw [if_pos hc74] at h
          refine q_ev_brT hc74 (a := 839) (b := 348) rfl ?_
          refine q_ev_run 2 (S' := (18, [some (.ref 1000), some (.ref 0), some (.ref 58), some (.int (x3 + 5))], [], qMM mc mm lm)) rfl ?_
          exact ih mc mm lm (x3 + 5) _ h hr hk
        · rw [if_neg hc74] at h
          refine q_ev_brF hc74 (a := 839) (b := 348) rfl ?_
          refine q_ev_run 1 (S' := (349, [some (.ref 1000), some (.ref 0), some (.ref 58), some (.int x3)], [.int 0], qMM mc mm lm)) rfl ?_
          obtain rfl := (Option.some.inj h).symm
          rw [hr _ _ _ _ rfl]
          exact q_ev_ret rfl rfl
      rw [if_neg hc75] at h
      by_cases hc91 : (xs x3.toNatClampNeg &&& 31) = 8
      · rw [if_pos hc91] at h
        refine q_ev_sw (v := 350) (a := 350) (show q_sw (xs x3.toNatClampNeg &&& 31) 839 0 [156, 179, 192, 205, 238, 271, 294, 317, 350, 403, 436, 449, 482, 505, 518, 541, 584, 617, 630, 643, 666, 689, 723, 756, 779, 802, 825] = 350 by rw [hc91]; rfl) rfl rfl ?_
        refine q_ev_run 5 (S' := (355, [some (.ref 1000), some (.ref 0), some (.ref 58), some (.int x3)], [.int (x3 + 1), .ref 1000, .ref 0], qMM mc mm lm)) rfl ?_
        obtain ⟨hb76, h⟩ := q_cd h
        refine q_ev_chk (b := q_in (x3 + 1) Ln && Nat.ble Ln 1000000) hb76 (S' := (356, [some (.ref 1000), some (.ref 0), some (.ref 58), some (.int x3)], [.int (xs ((x3 + 1)).toNatClampNeg), .ref 0], qMM mc mm lm)) rfl ?_
        refine q_ev_run 4 (S' := (360, [some (.ref 1000), some (.ref 0), some (.ref 58), some (.int x3)], [.int (x3 + 2), .ref 1000, .int (xs ((x3 + 1)).toNatClampNeg), .ref 0], qMM mc mm lm)) rfl ?_
        obtain ⟨hb77, h⟩ := q_cd h
        refine q_ev_chk (b := q_in (x3 + 2) Ln && Nat.ble Ln 1000000) hb77 (S' := (361, [some (.ref 1000), some (.ref 0), some (.ref 58), some (.int x3)], [.int (xs ((x3 + 2)).toNatClampNeg), .int (xs ((x3 + 1)).toNatClampNeg), .ref 0], qMM mc mm lm)) rfl ?_
        refine q_ev_run 4 (S' := (365, [some (.ref 1000), some (.ref 0), some (.ref 58), some (.int x3)], [.int (x3 + 3), .ref 1000, .int (xs ((x3 + 2)).toNatClampNeg), .int (xs ((x3 + 1)).toNatClampNeg), .ref 0], qMM mc mm lm)) rfl ?_
        obtain ⟨hb78, h⟩ := q_cd h
        refine q_ev_chk (b := q_in (x3 + 3) Ln && Nat.ble Ln 1000000) hb78 (S' := (366, [some (.ref 1000), some (.ref 0), some (.ref 58), some (.int x3)], [.int (xs ((x3 + 3)).toNatClampNeg), .int (xs ((x3 + 2)).toNatClampNeg), .int (xs ((x3 + 1)).toNatClampNeg), .ref 0], qMM mc mm lm)) rfl ?_
        refine q_ev_run 4 (S' := (370, [some (.ref 1000), some (.ref 0), some (.ref 58), some (.int x3)], [.int (x3 + 4), .ref 1000, .int (xs ((x3 + 3)).toNatClampNeg), .int (xs ((x3 + 2)).toNatClampNeg), .int (xs ((x3 + 1)).toNatClampNeg), .ref 0], qMM mc mm lm)) rfl ?_
        obtain ⟨hb79, h⟩ := q_cd h
        refine q_ev_chk (b := q_in (x3 + 4) Ln && Nat.ble Ln 1000000) hb79 (S' := (371, [some (.ref 1000), some (.ref 0), some (.ref 58), some (.int x3)], [.int (xs ((x3 + 4)).toNatClampNeg), .int (xs ((x3 + 3)).toNatClampNeg), .int (xs ((x3 + 2)).toNatClampNeg), .int (xs ((x3 + 1)).toNatClampNeg), .ref 0], qMM mc mm lm)) rfl ?_
        obtain ⟨⟨r80, m81⟩, hf82, h⟩ := Option.bind_eq_some_iff.mp h
        try dsimp only at h
        refine q_ev_call (S' := (374, [some (.ref 1000), some (.ref 0), some (.ref 58), some (.int x3)], [], qMM mc mm lm)) rfl (by omega) (T_AT_sits (by first | omega | decide) hf82) ?_
        refine q_ev_eq (S' := (374, [some (.ref 1000), some (.ref 0), some (.ref 58), some (.int x3)], [.int r80], qMM m81 mm lm)) rfl ?_
        refine q_ev_run 5 (S' := (379, [some (.ref 1000), some (.ref 0), some (.ref 58), some (.int x3)], [.int (x3 + 1), .ref 1000, .ref 58, .int r80], qMM m81 mm lm)) rfl ?_
        obtain ⟨hb83, h⟩ := q_cd h
        refine q_ev_chk (b := q_in (x3 + 1) Ln && Nat.ble Ln 1000000) hb83 (S' := (380, [some (.ref 1000), some (.ref 0), some (.ref 58), some (.int x3)], [.int (xs ((x3 + 1)).toNatClampNeg), .ref 58, .int r80], qMM m81 mm lm)) rfl ?_
        refine q_ev_run 4 (S' := (384, [some (.ref 1000), some (.ref 0), some (.ref 58), some (.int x3)], [.int (x3 + 2), .ref 1000, .int (xs ((x3 + 1)).toNatClampNeg), .ref 58, .int r80], qMM m81 mm lm)) rfl ?_
        obtain ⟨hb84, h⟩ := q_cd h
        refine q_ev_chk (b := q_in (x3 + 2) Ln && Nat.ble Ln 1000000) hb84 (S' := (385, [some (.ref 1000), some (.ref 0), some (.ref 58), some (.int x3)], [.int (xs ((x3 + 2)).toNatClampNeg), .int (xs ((x3 + 1)).toNatClampNeg), .ref 58, .int r80], qMM m81 mm lm)) rfl ?_
        refine q_ev_run 4 (S' := (389, [some (.ref 1000), some (.ref 0), some (.ref 58), some (.int x3)], [.int (x3 + 3), .ref 1000, .int (xs ((x3 + 2)).toNatClampNeg), .int (xs ((x3 + 1)).toNatClampNeg), .ref 58, .int r80], qMM m81 mm lm)) rfl ?_
        obtain ⟨hb85, h⟩ := q_cd h
        refine q_ev_chk (b := q_in (x3 + 3) Ln && Nat.ble Ln 1000000) hb85 (S' := (390, [some (.ref 1000), some (.ref 0), some (.ref 58), some (.int x3)], [.int (xs ((x3 + 3)).toNatClampNeg), .int (xs ((x3 + 2)).toNatClampNeg), .int (xs ((x3 + 1)).toNatClampNeg), .ref 58, .int r80], qMM m81 mm lm)) rfl ?_
        refine q_ev_run 4 (S' := (394, [some (.ref 1000), some (.ref 0), some (.ref 58), some (.int x3)], [.int (x3 + 4), .ref 1000, .int (xs ((x3 + 3)).toNatClampNeg), .int (xs ((x3 + 2)).toNatClampNeg), .int (xs ((x3 + 1)).toNatClampNeg), .ref 58, .int r80], qMM m81 mm lm)) rfl ?_
        obtain ⟨hb86, h⟩ := q_cd h
        refine q_ev_chk (b := q_in (x3 + 4) Ln && Nat.ble Ln 1000000) hb86 (S' := (395, [some (.ref 1000), some (.ref 0), some (.ref 58), some (.int x3)], [.int (xs ((x3 + 4)).toNatClampNeg), .int (xs ((x3 + 3)).toNatClampNeg), .int (xs ((x3 + 2)).toNatClampNeg), .int (xs ((x3 + 1)).toNatClampNeg), .ref 58, .int r80], qMM m81 mm lm)) rfl ?_
        obtain ⟨⟨r87, m88⟩, hf89, h⟩ := Option.bind_eq_some_iff.mp h
        try dsimp only at h
        refine q_ev_call (S' := (398, [some (.ref 1000), some (.ref 0), some (.ref 58), some (.int x3)], [.int r80], qMM m81 mm lm)) rfl (by omega) (T_Mo_sits (by first | omega | decide) hf89) ?_
        refine q_ev_eq (S' := (398, [some (.ref 1000), some (.ref 0), some (.ref 58), some (.int x3)], [.int r87, .int r80], qMM m81 m88 lm)) rfl ?_
        by_cases hc90 : r80 = r87
        · rw [if_pos hc90] at h
          refine q_ev_brT hc90 (a := 839) (b := 401) rfl ?_
          refine q_ev_run 2 (S' := (18, [some (.ref 1000), some (.ref 0), some (.ref 58), some (.int (x3 + 5))], [], qMM m81 m88 lm)) rfl ?_
          exact ih m81 m88 lm (x3 + 5) _ h hr hk
        · rw [if_neg hc90] at h
          refine q_ev_brF hc90 (a := 839) (b := 401) rfl ?_
          refine q_ev_run 1 (S' := (402, [some (.ref 1000), some (.ref 0), some (.ref 58), some (.int x3)], [.int 0], qMM m81 m88 lm)) rfl ?_
          obtain rfl := (Option.some.inj h).symm
          rw [hr _ _ _ _ rfl]
          exact q_ev_ret rfl rfl
      rw [if_neg hc91] at h
      by_cases hc103 : (xs x3.toNatClampNeg &&& 31) = 9
      · rw [if_pos hc103] at h
        refine q_ev_sw (v := 403) (a := 403) (show q_sw (xs x3.toNatClampNeg &&& 31) 839 0 [156, 179, 192, 205, 238, 271, 294, 317, 350, 403, 436, 449, 482, 505, 518, 541, 584, 617, 630, 643, 666, 689, 723, 756, 779, 802, 825] = 403 by rw [hc103]; rfl) rfl rfl ?_
        refine q_ev_run 5 (S' := (408, [some (.ref 1000), some (.ref 0), some (.ref 58), some (.int x3)], [.int (x3 + 1), .ref 1000, .ref 0], qMM mc mm lm)) rfl ?_
        obtain ⟨hb92, h⟩ := q_cd h
        refine q_ev_chk (b := q_in (x3 + 1) Ln && Nat.ble Ln 1000000) hb92 (S' := (409, [some (.ref 1000), some (.ref 0), some (.ref 58), some (.int x3)], [.int (xs ((x3 + 1)).toNatClampNeg), .ref 0], qMM mc mm lm)) rfl ?_
        refine q_ev_run 4 (S' := (413, [some (.ref 1000), some (.ref 0), some (.ref 58), some (.int x3)], [.int (x3 + 2), .ref 1000, .int (xs ((x3 + 1)).toNatClampNeg), .ref 0], qMM mc mm lm)) rfl ?_
        obtain ⟨hb93, h⟩ := q_cd h
        refine q_ev_chk (b := q_in (x3 + 2) Ln && Nat.ble Ln 1000000) hb93 (S' := (414, [some (.ref 1000), some (.ref 0), some (.ref 58), some (.int x3)], [.int (xs ((x3 + 2)).toNatClampNeg), .int (xs ((x3 + 1)).toNatClampNeg), .ref 0], qMM mc mm lm)) rfl ?_
        obtain ⟨⟨r94, m95⟩, hf96, h⟩ := Option.bind_eq_some_iff.mp h
        try dsimp only at h
        refine q_ev_call (S' := (417, [some (.ref 1000), some (.ref 0), some (.ref 58), some (.int x3)], [], qMM mc mm lm)) rfl (by omega) (T_AT_waits (by first | omega | decide) hf96) ?_
        refine q_ev_eq (S' := (417, [some (.ref 1000), some (.ref 0), some (.ref 58), some (.int x3)], [.int r94], qMM m95 mm lm)) rfl ?_
        refine q_ev_run 5 (S' := (422, [some (.ref 1000), some (.ref 0), some (.ref 58), some (.int x3)], [.int (x3 + 1), .ref 1000, .ref 58, .int r94], qMM m95 mm lm)) rfl ?_
        obtain ⟨hb97, h⟩ := q_cd h
        refine q_ev_chk (b := q_in (x3 + 1) Ln && Nat.ble Ln 1000000) hb97 (S' := (423, [some (.ref 1000), some (.ref 0), some (.ref 58), some (.int x3)], [.int (xs ((x3 + 1)).toNatClampNeg), .ref 58, .int r94], qMM m95 mm lm)) rfl ?_
        refine q_ev_run 4 (S' := (427, [some (.ref 1000), some (.ref 0), some (.ref 58), some (.int x3)], [.int (x3 + 2), .ref 1000, .int (xs ((x3 + 1)).toNatClampNeg), .ref 58, .int r94], qMM m95 mm lm)) rfl ?_
        obtain ⟨hb98, h⟩ := q_cd h
        refine q_ev_chk (b := q_in (x3 + 2) Ln && Nat.ble Ln 1000000) hb98 (S' := (428, [some (.ref 1000), some (.ref 0), some (.ref 58), some (.int x3)], [.int (xs ((x3 + 2)).toNatClampNeg), .int (xs ((x3 + 1)).toNatClampNeg), .ref 58, .int r94], qMM m95 mm lm)) rfl ?_
        obtain ⟨⟨r99, m100⟩, hf101, h⟩ := Option.bind_eq_some_iff.mp h
        try dsimp only at h
        refine q_ev_call (S' := (431, [some (.ref 1000), some (.ref 0), some (.ref 58), some (.int x3)], [.int r94], qMM m95 mm lm)) rfl (by omega) (T_Mo_waits (by first | omega | decide) hf101) ?_
        refine q_ev_eq (S' := (431, [some (.ref 1000), some (.ref 0), some (.ref 58), some (.int x3)], [.int r99, .int r94], qMM m95 m100 lm)) rfl ?_
        by_cases hc102 : r94 = r99
        · rw [if_pos hc102] at h
          refine q_ev_brT hc102 (a := 839) (b := 434) rfl ?_
          refine q_ev_run 2 (S' := (18, [some (.ref 1000), some (.ref 0), some (.ref 58), some (.int (x3 + 5))], [], qMM m95 m100 lm)) rfl ?_
          exact ih m95 m100 lm (x3 + 5) _ h hr hk
        · rw [if_neg hc102] at h
          refine q_ev_brF hc102 (a := 839) (b := 434) rfl ?_
          refine q_ev_run 1 (S' := (435, [some (.ref 1000), some (.ref 0), some (.ref 58), some (.int x3)], [.int 0], qMM m95 m100 lm)) rfl ?_
          obtain rfl := (Option.some.inj h).symm
          rw [hr _ _ _ _ rfl]
          exact q_ev_ret rfl rfl
      rw [if_neg hc103] at h
      by_cases hc111 : (xs x3.toNatClampNeg &&& 31) = 10
      · rw [if_pos hc111] at h
        refine q_ev_sw (v := 436) (a := 436) (show q_sw (xs x3.toNatClampNeg &&& 31) 839 0 [156, 179, 192, 205, 238, 271, 294, 317, 350, 403, 436, 449, 482, 505, 518, 541, 584, 617, 630, 643, 666, 689, 723, 756, 779, 802, 825] = 436 by rw [hc111]; rfl) rfl rfl ?_
        refine q_ev_run 1 (S' := (437, [some (.ref 1000), some (.ref 0), some (.ref 58), some (.int x3)], [.ref 0], qMM mc mm lm)) rfl ?_
        obtain ⟨⟨r104, m105⟩, hf106, h⟩ := Option.bind_eq_some_iff.mp h
        try dsimp only at h
        refine q_ev_call (S' := (440, [some (.ref 1000), some (.ref 0), some (.ref 58), some (.int x3)], [], qMM mc mm lm)) rfl (by omega) (T_AT_undo (by first | omega | decide) hf106) ?_
        refine q_ev_eq (S' := (440, [some (.ref 1000), some (.ref 0), some (.ref 58), some (.int x3)], [.int r104], qMM m105 mm lm)) rfl ?_
        refine q_ev_run 1 (S' := (441, [some (.ref 1000), some (.ref 0), some (.ref 58), some (.int x3)], [.ref 58, .int r104], qMM m105 mm lm)) rfl ?_
        obtain ⟨⟨r107, m108⟩, hf109, h⟩ := Option.bind_eq_some_iff.mp h
        try dsimp only at h
        refine q_ev_call (S' := (444, [some (.ref 1000), some (.ref 0), some (.ref 58), some (.int x3)], [.int r104], qMM m105 mm lm)) rfl (by omega) (T_Mo_undo (by first | omega | decide) hf109) ?_
        refine q_ev_eq (S' := (444, [some (.ref 1000), some (.ref 0), some (.ref 58), some (.int x3)], [.int r107, .int r104], qMM m105 m108 lm)) rfl ?_
        by_cases hc110 : r104 = r107
        · rw [if_pos hc110] at h
          refine q_ev_brT hc110 (a := 839) (b := 447) rfl ?_
          refine q_ev_run 2 (S' := (18, [some (.ref 1000), some (.ref 0), some (.ref 58), some (.int (x3 + 5))], [], qMM m105 m108 lm)) rfl ?_
          exact ih m105 m108 lm (x3 + 5) _ h hr hk
        · rw [if_neg hc110] at h
          refine q_ev_brF hc110 (a := 839) (b := 447) rfl ?_
          refine q_ev_run 1 (S' := (448, [some (.ref 1000), some (.ref 0), some (.ref 58), some (.int x3)], [.int 0], qMM m105 m108 lm)) rfl ?_
          obtain rfl := (Option.some.inj h).symm
          rw [hr _ _ _ _ rfl]
          exact q_ev_ret rfl rfl
      rw [if_neg hc111] at h
      by_cases hc121 : (xs x3.toNatClampNeg &&& 31) = 11
      · rw [if_pos hc121] at h
        refine q_ev_sw (v := 449) (a := 449) (show q_sw (xs x3.toNatClampNeg &&& 31) 839 0 [156, 179, 192, 205, 238, 271, 294, 317, 350, 403, 436, 449, 482, 505, 518, 541, 584, 617, 630, 643, 666, 689, 723, 756, 779, 802, 825] = 449 by rw [hc121]; rfl) rfl rfl ?_
        refine q_ev_run 5 (S' := (454, [some (.ref 1000), some (.ref 0), some (.ref 58), some (.int x3)], [.int (x3 + 1), .ref 1000, .ref 0], qMM mc mm lm)) rfl ?_
        obtain ⟨hb112, h⟩ := q_cd h
        refine q_ev_chk (b := q_in (x3 + 1) Ln && Nat.ble Ln 1000000) hb112 (S' := (455, [some (.ref 1000), some (.ref 0), some (.ref 58), some (.int x3)], [.int (xs ((x3 + 1)).toNatClampNeg), .ref 0], qMM mc mm lm)) rfl ?_
        refine q_ev_run 4 (S' := (459, [some (.ref 1000), some (.ref 0), some (.ref 58), some (.int x3)], [.int (x3 + 2), .ref 1000, .int (xs ((x3 + 1)).toNatClampNeg), .ref 0], qMM mc mm lm)) rfl ?_
        obtain ⟨hb113, h⟩ := q_cd h
        refine q_ev_chk (b := q_in (x3 + 2) Ln && Nat.ble Ln 1000000) hb113 (S' := (460, [some (.ref 1000), some (.ref 0), some (.ref 58), some (.int x3)], [.int (xs ((x3 + 2)).toNatClampNeg), .int (xs ((x3 + 1)).toNatClampNeg), .ref 0], qMM mc mm lm)) rfl ?_
        obtain ⟨r114, hf115, h⟩ := Option.bind_eq_some_iff.mp h
        try dsimp only at h
        refine q_ev_call (S' := (463, [some (.ref 1000), some (.ref 0), some (.ref 58), some (.int x3)], [], qMM mc mm lm)) rfl (by omega) (T_AT_sat (by first | omega | decide) hf115) ?_
        refine q_ev_eq (S' := (463, [some (.ref 1000), some (.ref 0), some (.ref 58), some (.int x3)], [.int r114], qMM mc mm lm)) rfl ?_
        refine q_ev_run 5 (S' := (468, [some (.ref 1000), some (.ref 0), some (.ref 58), some (.int x3)], [.int (x3 + 1), .ref 1000, .ref 58, .int r114], qMM mc mm lm)) rfl ?_
        obtain ⟨hb116, h⟩ := q_cd h
        refine q_ev_chk (b := q_in (x3 + 1) Ln && Nat.ble Ln 1000000) hb116 (S' := (469, [some (.ref 1000), some (.ref 0), some (.ref 58), some (.int x3)], [.int (xs ((x3 + 1)).toNatClampNeg), .ref 58, .int r114], qMM mc mm lm)) rfl ?_
        refine q_ev_run 4 (S' := (473, [some (.ref 1000), some (.ref 0), some (.ref 58), some (.int x3)], [.int (x3 + 2), .ref 1000, .int (xs ((x3 + 1)).toNatClampNeg), .ref 58, .int r114], qMM mc mm lm)) rfl ?_
        obtain ⟨hb117, h⟩ := q_cd h
        refine q_ev_chk (b := q_in (x3 + 2) Ln && Nat.ble Ln 1000000) hb117 (S' := (474, [some (.ref 1000), some (.ref 0), some (.ref 58), some (.int x3)], [.int (xs ((x3 + 2)).toNatClampNeg), .int (xs ((x3 + 1)).toNatClampNeg), .ref 58, .int r114], qMM mc mm lm)) rfl ?_
        obtain ⟨r118, hf119, h⟩ := Option.bind_eq_some_iff.mp h
        try dsimp only at h
        refine q_ev_call (S' := (477, [some (.ref 1000), some (.ref 0), some (.ref 58), some (.int x3)], [.int r114], qMM mc mm lm)) rfl (by omega) (T_Mo_sat (by first | omega | decide) hf119) ?_
        refine q_ev_eq (S' := (477, [some (.ref 1000), some (.ref 0), some (.ref 58), some (.int x3)], [.int r118, .int r114], qMM mc mm lm)) rfl ?_
        by_cases hc120 : r114 = r118
        · rw [if_pos hc120] at h
          refine q_ev_brT hc120 (a := 839) (b := 480) rfl ?_
          refine q_ev_run 2 (S' := (18, [some (.ref 1000), some (.ref 0), some (.ref 58), some (.int (x3 + 5))], [], qMM mc mm lm)) rfl ?_
          exact ih mc mm lm (x3 + 5) _ h hr hk
        · rw [if_neg hc120] at h
          refine q_ev_brF hc120 (a := 839) (b := 480) rfl ?_
          refine q_ev_run 1 (S' := (481, [some (.ref 1000), some (.ref 0), some (.ref 58), some (.int x3)], [.int 0], qMM mc mm lm)) rfl ?_
          obtain rfl := (Option.some.inj h).symm
          rw [hr _ _ _ _ rfl]
          exact q_ev_ret rfl rfl
      rw [if_neg hc121] at h
      by_cases hc129 : (xs x3.toNatClampNeg &&& 31) = 12
      · rw [if_pos hc129] at h
        refine q_ev_sw (v := 482) (a := 482) (show q_sw (xs x3.toNatClampNeg &&& 31) 839 0 [156, 179, 192, 205, 238, 271, 294, 317, 350, 403, 436, 449, 482, 505, 518, 541, 584, 617, 630, 643, 666, 689, 723, 756, 779, 802, 825] = 482 by rw [hc129]; rfl) rfl rfl ?_
        refine q_ev_run 5 (S' := (487, [some (.ref 1000), some (.ref 0), some (.ref 58), some (.int x3)], [.int (x3 + 1), .ref 1000, .ref 0], qMM mc mm lm)) rfl ?_
        obtain ⟨hb122, h⟩ := q_cd h
        refine q_ev_chk (b := q_in (x3 + 1) Ln && Nat.ble Ln 1000000) hb122 (S' := (488, [some (.ref 1000), some (.ref 0), some (.ref 58), some (.int x3)], [.int (xs ((x3 + 1)).toNatClampNeg), .ref 0], qMM mc mm lm)) rfl ?_
        obtain ⟨r123, hf124, h⟩ := Option.bind_eq_some_iff.mp h
        try dsimp only at h
        refine q_ev_call (S' := (491, [some (.ref 1000), some (.ref 0), some (.ref 58), some (.int x3)], [], qMM mc mm lm)) rfl (by omega) (T_AT_race (by first | omega | decide) hf124) ?_
        refine q_ev_eq (S' := (491, [some (.ref 1000), some (.ref 0), some (.ref 58), some (.int x3)], [.int r123], qMM mc mm lm)) rfl ?_
        refine q_ev_run 5 (S' := (496, [some (.ref 1000), some (.ref 0), some (.ref 58), some (.int x3)], [.int (x3 + 1), .ref 1000, .ref 58, .int r123], qMM mc mm lm)) rfl ?_
        obtain ⟨hb125, h⟩ := q_cd h
        refine q_ev_chk (b := q_in (x3 + 1) Ln && Nat.ble Ln 1000000) hb125 (S' := (497, [some (.ref 1000), some (.ref 0), some (.ref 58), some (.int x3)], [.int (xs ((x3 + 1)).toNatClampNeg), .ref 58, .int r123], qMM mc mm lm)) rfl ?_
        obtain ⟨r126, hf127, h⟩ := Option.bind_eq_some_iff.mp h
        try dsimp only at h
        refine q_ev_call (S' := (500, [some (.ref 1000), some (.ref 0), some (.ref 58), some (.int x3)], [.int r123], qMM mc mm lm)) rfl (by omega) (T_Mo_race (by first | omega | decide) hf127) ?_
        refine q_ev_eq (S' := (500, [some (.ref 1000), some (.ref 0), some (.ref 58), some (.int x3)], [.int r126, .int r123], qMM mc mm lm)) rfl ?_
        by_cases hc128 : r123 = r126
        · rw [if_pos hc128] at h
          refine q_ev_brT hc128 (a := 839) (b := 503) rfl ?_
          refine q_ev_run 2 (S' := (18, [some (.ref 1000), some (.ref 0), some (.ref 58), some (.int (x3 + 5))], [], qMM mc mm lm)) rfl ?_
          exact ih mc mm lm (x3 + 5) _ h hr hk
        · rw [if_neg hc128] at h
          refine q_ev_brF hc128 (a := 839) (b := 503) rfl ?_
          refine q_ev_run 1 (S' := (504, [some (.ref 1000), some (.ref 0), some (.ref 58), some (.int x3)], [.int 0], qMM mc mm lm)) rfl ?_
          obtain rfl := (Option.some.inj h).symm
          rw [hr _ _ _ _ rfl]
          exact q_ev_ret rfl rfl
      rw [if_neg hc129] at h
      by_cases hc137 : (xs x3.toNatClampNeg &&& 31) = 13
      · rw [if_pos hc137] at h
        refine q_ev_sw (v := 505) (a := 505) (show q_sw (xs x3.toNatClampNeg &&& 31) 839 0 [156, 179, 192, 205, 238, 271, 294, 317, 350, 403, 436, 449, 482, 505, 518, 541, 584, 617, 630, 643, 666, 689, 723, 756, 779, 802, 825] = 505 by rw [hc137]; rfl) rfl rfl ?_
        refine q_ev_run 1 (S' := (506, [some (.ref 1000), some (.ref 0), some (.ref 58), some (.int x3)], [.ref 0], qMM mc mm lm)) rfl ?_
        obtain ⟨⟨r130, m131⟩, hf132, h⟩ := Option.bind_eq_some_iff.mp h
        try dsimp only at h
        refine q_ev_call (S' := (509, [some (.ref 1000), some (.ref 0), some (.ref 58), some (.int x3)], [], qMM mc mm lm)) rfl (by omega) (T_AT_one (by first | omega | decide) hf132) ?_
        refine q_ev_eq (S' := (509, [some (.ref 1000), some (.ref 0), some (.ref 58), some (.int x3)], [.int r130], qMM m131 mm lm)) rfl ?_
        refine q_ev_run 1 (S' := (510, [some (.ref 1000), some (.ref 0), some (.ref 58), some (.int x3)], [.ref 58, .int r130], qMM m131 mm lm)) rfl ?_
        obtain ⟨⟨r133, m134⟩, hf135, h⟩ := Option.bind_eq_some_iff.mp h
        try dsimp only at h
        refine q_ev_call (S' := (513, [some (.ref 1000), some (.ref 0), some (.ref 58), some (.int x3)], [.int r130], qMM m131 mm lm)) rfl (by omega) (T_Mo_one (by first | omega | decide) hf135) ?_
        refine q_ev_eq (S' := (513, [some (.ref 1000), some (.ref 0), some (.ref 58), some (.int x3)], [.int r133, .int r130], qMM m131 m134 lm)) rfl ?_
        by_cases hc136 : r130 = r133
        · rw [if_pos hc136] at h
          refine q_ev_brT hc136 (a := 839) (b := 516) rfl ?_
          refine q_ev_run 2 (S' := (18, [some (.ref 1000), some (.ref 0), some (.ref 58), some (.int (x3 + 5))], [], qMM m131 m134 lm)) rfl ?_
          exact ih m131 m134 lm (x3 + 5) _ h hr hk
        · rw [if_neg hc136] at h
          refine q_ev_brF hc136 (a := 839) (b := 516) rfl ?_
          refine q_ev_run 1 (S' := (517, [some (.ref 1000), some (.ref 0), some (.ref 58), some (.int x3)], [.int 0], qMM m131 m134 lm)) rfl ?_
          obtain rfl := (Option.some.inj h).symm
          rw [hr _ _ _ _ rfl]
          exact q_ev_ret rfl rfl
      rw [if_neg hc137] at h
      by_cases hc147 : (xs x3.toNatClampNeg &&& 31) = 14
      · rw [if_pos hc147] at h
        refine q_ev_sw (v := 518) (a := 518) (show q_sw (xs x3.toNatClampNeg &&& 31) 839 0 [156, 179, 192, 205, 238, 271, 294, 317, 350, 403, 436, 449, 482, 505, 518, 541, 584, 617, 630, 643, 666, 689, 723, 756, 779, 802, 825] = 518 by rw [hc147]; rfl) rfl rfl ?_
        refine q_ev_run 5 (S' := (523, [some (.ref 1000), some (.ref 0), some (.ref 58), some (.int x3)], [.int (x3 + 1), .ref 1000, .ref 0], qMM mc mm lm)) rfl ?_
        obtain ⟨hb138, h⟩ := q_cd h
        refine q_ev_chk (b := q_in (x3 + 1) Ln && Nat.ble Ln 1000000) hb138 (S' := (524, [some (.ref 1000), some (.ref 0), some (.ref 58), some (.int x3)], [.int (xs ((x3 + 1)).toNatClampNeg), .ref 0], qMM mc mm lm)) rfl ?_
        obtain ⟨⟨r139, m140⟩, hf141, h⟩ := Option.bind_eq_some_iff.mp h
        try dsimp only at h
        refine q_ev_call (S' := (527, [some (.ref 1000), some (.ref 0), some (.ref 58), some (.int x3)], [], qMM mc mm lm)) rfl (by omega) (T_AT_needed (by first | omega | decide) hf141) ?_
        refine q_ev_eq (S' := (527, [some (.ref 1000), some (.ref 0), some (.ref 58), some (.int x3)], [.int r139], qMM m140 mm lm)) rfl ?_
        refine q_ev_run 5 (S' := (532, [some (.ref 1000), some (.ref 0), some (.ref 58), some (.int x3)], [.int (x3 + 1), .ref 1000, .ref 58, .int r139], qMM m140 mm lm)) rfl ?_
        obtain ⟨hb142, h⟩ := q_cd h
        refine q_ev_chk (b := q_in (x3 + 1) Ln && Nat.ble Ln 1000000) hb142 (S' := (533, [some (.ref 1000), some (.ref 0), some (.ref 58), some (.int x3)], [.int (xs ((x3 + 1)).toNatClampNeg), .ref 58, .int r139], qMM m140 mm lm)) rfl ?_
        obtain ⟨⟨r143, m144⟩, hf145, h⟩ := Option.bind_eq_some_iff.mp h
        try dsimp only at h
        refine q_ev_call (S' := (536, [some (.ref 1000), some (.ref 0), some (.ref 58), some (.int x3)], [.int r139], qMM m140 mm lm)) rfl (by omega) (T_Mo_needed (by first | omega | decide) hf145) ?_
        refine q_ev_eq (S' := (536, [some (.ref 1000), some (.ref 0), some (.ref 58), some (.int x3)], [.int r143, .int r139], qMM m140 m144 lm)) rfl ?_
        by_cases hc146 : r139 = r143
        · rw [if_pos hc146] at h
          refine q_ev_brT hc146 (a := 839) (b := 539) rfl ?_
          refine q_ev_run 2 (S' := (18, [some (.ref 1000), some (.ref 0), some (.ref 58), some (.int (x3 + 5))], [], qMM m140 m144 lm)) rfl ?_
          exact ih m140 m144 lm (x3 + 5) _ h hr hk
        · rw [if_neg hc146] at h
          refine q_ev_brF hc146 (a := 839) (b := 539) rfl ?_
          refine q_ev_run 1 (S' := (540, [some (.ref 1000), some (.ref 0), some (.ref 58), some (.int x3)], [.int 0], qMM m140 m144 lm)) rfl ?_
          obtain rfl := (Option.some.inj h).symm
          rw [hr _ _ _ _ rfl]
          exact q_ev_ret rfl rfl
      rw [if_neg hc147] at h
      by_cases hc161 : (xs x3.toNatClampNeg &&& 31) = 15
      · rw [if_pos hc161] at h
        refine q_ev_sw (v := 541) (a := 541) (show q_sw (xs x3.toNatClampNeg &&& 31) 839 0 [156, 179, 192, 205, 238, 271, 294, 317, 350, 403, 436, 449, 482, 505, 518, 541, 584, 617, 630, 643, 666, 689, 723, 756, 779, 802, 825] = 541 by rw [hc161]; rfl) rfl rfl ?_
        refine q_ev_run 5 (S' := (546, [some (.ref 1000), some (.ref 0), some (.ref 58), some (.int x3)], [.int (x3 + 1), .ref 1000, .ref 0], qMM mc mm lm)) rfl ?_
        obtain ⟨hb148, h⟩ := q_cd h
        refine q_ev_chk (b := q_in (x3 + 1) Ln && Nat.ble Ln 1000000) hb148 (S' := (547, [some (.ref 1000), some (.ref 0), some (.ref 58), some (.int x3)], [.int (xs ((x3 + 1)).toNatClampNeg), .ref 0], qMM mc mm lm)) rfl ?_
        refine q_ev_run 4 (S' := (551, [some (.ref 1000), some (.ref 0), some (.ref 58), some (.int x3)], [.int (x3 + 2), .ref 1000, .int (xs ((x3 + 1)).toNatClampNeg), .ref 0], qMM mc mm lm)) rfl ?_
        obtain ⟨hb149, h⟩ := q_cd h
        refine q_ev_chk (b := q_in (x3 + 2) Ln && Nat.ble Ln 1000000) hb149 (S' := (552, [some (.ref 1000), some (.ref 0), some (.ref 58), some (.int x3)], [.int (xs ((x3 + 2)).toNatClampNeg), .int (xs ((x3 + 1)).toNatClampNeg), .ref 0], qMM mc mm lm)) rfl ?_
        refine q_ev_run 4 (S' := (556, [some (.ref 1000), some (.ref 0), some (.ref 58), some (.int x3)], [.int (x3 + 3), .ref 1000, .int (xs ((x3 + 2)).toNatClampNeg), .int (xs ((x3 + 1)).toNatClampNeg), .ref 0], qMM mc mm lm)) rfl ?_
        obtain ⟨hb150, h⟩ := q_cd h
        refine q_ev_chk (b := q_in (x3 + 3) Ln && Nat.ble Ln 1000000) hb150 (S' := (557, [some (.ref 1000), some (.ref 0), some (.ref 58), some (.int x3)], [.int (xs ((x3 + 3)).toNatClampNeg), .int (xs ((x3 + 2)).toNatClampNeg), .int (xs ((x3 + 1)).toNatClampNeg), .ref 0], qMM mc mm lm)) rfl ?_
        obtain ⟨⟨r151, m152⟩, hf153, h⟩ := Option.bind_eq_some_iff.mp h
        try dsimp only at h
        refine q_ev_call (S' := (560, [some (.ref 1000), some (.ref 0), some (.ref 58), some (.int x3)], [], qMM mc mm lm)) rfl (by omega) (T_AT_worst (by first | omega | decide) hf153) ?_
        refine q_ev_eq (S' := (560, [some (.ref 1000), some (.ref 0), some (.ref 58), some (.int x3)], [.int r151], qMM m152 mm lm)) rfl ?_
        refine q_ev_run 5 (S' := (565, [some (.ref 1000), some (.ref 0), some (.ref 58), some (.int x3)], [.int (x3 + 1), .ref 1000, .ref 58, .int r151], qMM m152 mm lm)) rfl ?_
        obtain ⟨hb154, h⟩ := q_cd h
        refine q_ev_chk (b := q_in (x3 + 1) Ln && Nat.ble Ln 1000000) hb154 (S' := (566, [some (.ref 1000), some (.ref 0), some (.ref 58), some (.int x3)], [.int (xs ((x3 + 1)).toNatClampNeg), .ref 58, .int r151], qMM m152 mm lm)) rfl ?_
        refine q_ev_run 4 (S' := (570, [some (.ref 1000), some (.ref 0), some (.ref 58), some (.int x3)], [.int (x3 + 2), .ref 1000, .int (xs ((x3 + 1)).toNatClampNeg), .ref 58, .int r151], qMM m152 mm lm)) rfl ?_
        obtain ⟨hb155, h⟩ := q_cd h
        refine q_ev_chk (b := q_in (x3 + 2) Ln && Nat.ble Ln 1000000) hb155 (S' := (571, [some (.ref 1000), some (.ref 0), some (.ref 58), some (.int x3)], [.int (xs ((x3 + 2)).toNatClampNeg), .int (xs ((x3 + 1)).toNatClampNeg), .ref 58, .int r151], qMM m152 mm lm)) rfl ?_
        refine q_ev_run 4 (S' := (575, [some (.ref 1000), some (.ref 0), some (.ref 58), some (.int x3)], [.int (x3 + 3), .ref 1000, .int (xs ((x3 + 2)).toNatClampNeg), .int (xs ((x3 + 1)).toNatClampNeg), .ref 58, .int r151], qMM m152 mm lm)) rfl ?_
        obtain ⟨hb156, h⟩ := q_cd h
        refine q_ev_chk (b := q_in (x3 + 3) Ln && Nat.ble Ln 1000000) hb156 (S' := (576, [some (.ref 1000), some (.ref 0), some (.ref 58), some (.int x3)], [.int (xs ((x3 + 3)).toNatClampNeg), .int (xs ((x3 + 2)).toNatClampNeg), .int (xs ((x3 + 1)).toNatClampNeg), .ref 58, .int r151], qMM m152 mm lm)) rfl ?_
        obtain ⟨⟨r157, m158⟩, hf159, h⟩ := Option.bind_eq_some_iff.mp h
        try dsimp only at h
        refine q_ev_call (S' := (579, [some (.ref 1000), some (.ref 0), some (.ref 58), some (.int x3)], [.int r151], qMM m152 mm lm)) rfl (by omega) (T_Mo_worst (by first | omega | decide) hf159) ?_
        refine q_ev_eq (S' := (579, [some (.ref 1000), some (.ref 0), some (.ref 58), some (.int x3)], [.int r157, .int r151], qMM m152 m158 lm)) rfl ?_
        by_cases hc160 : r151 = r157
        · rw [if_pos hc160] at h
          refine q_ev_brT hc160 (a := 839) (b := 582) rfl ?_
          refine q_ev_run 2 (S' := (18, [some (.ref 1000), some (.ref 0), some (.ref 58), some (.int (x3 + 5))], [], qMM m152 m158 lm)) rfl ?_
          exact ih m152 m158 lm (x3 + 5) _ h hr hk
        · rw [if_neg hc160] at h
          refine q_ev_brF hc160 (a := 839) (b := 582) rfl ?_
          refine q_ev_run 1 (S' := (583, [some (.ref 1000), some (.ref 0), some (.ref 58), some (.int x3)], [.int 0], qMM m152 m158 lm)) rfl ?_
          obtain rfl := (Option.some.inj h).symm
          rw [hr _ _ _ _ rfl]
          exact q_ev_ret rfl rfl
      rw [if_neg hc161] at h
      by_cases hc173 : (xs x3.toNatClampNeg &&& 31) = 16
      · rw [if_pos hc173] at h
        refine q_ev_sw (v := 584) (a := 584) (show q_sw (xs x3.toNatClampNeg &&& 31) 839 0 [156, 179, 192, 205, 238, 271, 294, 317, 350, 403, 436, 449, 482, 505, 518, 541, 584, 617, 630, 643, 666, 689, 723, 756, 779, 802, 825] = 584 by rw [hc173]; rfl) rfl rfl ?_
        refine q_ev_run 5 (S' := (589, [some (.ref 1000), some (.ref 0), some (.ref 58), some (.int x3)], [.int (x3 + 1), .ref 1000, .ref 0], qMM mc mm lm)) rfl ?_
        obtain ⟨hb162, h⟩ := q_cd h
        refine q_ev_chk (b := q_in (x3 + 1) Ln && Nat.ble Ln 1000000) hb162 (S' := (590, [some (.ref 1000), some (.ref 0), some (.ref 58), some (.int x3)], [.int (xs ((x3 + 1)).toNatClampNeg), .ref 0], qMM mc mm lm)) rfl ?_
        refine q_ev_run 4 (S' := (594, [some (.ref 1000), some (.ref 0), some (.ref 58), some (.int x3)], [.int (x3 + 2), .ref 1000, .int (xs ((x3 + 1)).toNatClampNeg), .ref 0], qMM mc mm lm)) rfl ?_
        obtain ⟨hb163, h⟩ := q_cd h
        refine q_ev_chk (b := q_in (x3 + 2) Ln && Nat.ble Ln 1000000) hb163 (S' := (595, [some (.ref 1000), some (.ref 0), some (.ref 58), some (.int x3)], [.int (xs ((x3 + 2)).toNatClampNeg), .int (xs ((x3 + 1)).toNatClampNeg), .ref 0], qMM mc mm lm)) rfl ?_
        obtain ⟨⟨r164, m165⟩, hf166, h⟩ := Option.bind_eq_some_iff.mp h
        try dsimp only at h
        refine q_ev_call (S' := (598, [some (.ref 1000), some (.ref 0), some (.ref 58), some (.int x3)], [], qMM mc mm lm)) rfl (by omega) (T_AT_saw (by first | omega | decide) hf166) ?_
        refine q_ev_eq (S' := (598, [some (.ref 1000), some (.ref 0), some (.ref 58), some (.int x3)], [.int r164], qMM m165 mm lm)) rfl ?_
        refine q_ev_run 5 (S' := (603, [some (.ref 1000), some (.ref 0), some (.ref 58), some (.int x3)], [.int (x3 + 1), .ref 1000, .ref 58, .int r164], qMM m165 mm lm)) rfl ?_
        obtain ⟨hb167, h⟩ := q_cd h
        refine q_ev_chk (b := q_in (x3 + 1) Ln && Nat.ble Ln 1000000) hb167 (S' := (604, [some (.ref 1000), some (.ref 0), some (.ref 58), some (.int x3)], [.int (xs ((x3 + 1)).toNatClampNeg), .ref 58, .int r164], qMM m165 mm lm)) rfl ?_
        refine q_ev_run 4 (S' := (608, [some (.ref 1000), some (.ref 0), some (.ref 58), some (.int x3)], [.int (x3 + 2), .ref 1000, .int (xs ((x3 + 1)).toNatClampNeg), .ref 58, .int r164], qMM m165 mm lm)) rfl ?_
        obtain ⟨hb168, h⟩ := q_cd h
        refine q_ev_chk (b := q_in (x3 + 2) Ln && Nat.ble Ln 1000000) hb168 (S' := (609, [some (.ref 1000), some (.ref 0), some (.ref 58), some (.int x3)], [.int (xs ((x3 + 2)).toNatClampNeg), .int (xs ((x3 + 1)).toNatClampNeg), .ref 58, .int r164], qMM m165 mm lm)) rfl ?_
        obtain ⟨⟨r169, m170⟩, hf171, h⟩ := Option.bind_eq_some_iff.mp h
        try dsimp only at h
        refine q_ev_call (S' := (612, [some (.ref 1000), some (.ref 0), some (.ref 58), some (.int x3)], [.int r164], qMM m165 mm lm)) rfl (by omega) (T_Mo_saw (by first | omega | decide) hf171) ?_
        refine q_ev_eq (S' := (612, [some (.ref 1000), some (.ref 0), some (.ref 58), some (.int x3)], [.int r169, .int r164], qMM m165 m170 lm)) rfl ?_
        by_cases hc172 : r164 = r169
        · rw [if_pos hc172] at h
          refine q_ev_brT hc172 (a := 839) (b := 615) rfl ?_
          refine q_ev_run 2 (S' := (18, [some (.ref 1000), some (.ref 0), some (.ref 58), some (.int (x3 + 5))], [], qMM m165 m170 lm)) rfl ?_
          exact ih m165 m170 lm (x3 + 5) _ h hr hk
        · rw [if_neg hc172] at h
          refine q_ev_brF hc172 (a := 839) (b := 615) rfl ?_
          refine q_ev_run 1 (S' := (616, [some (.ref 1000), some (.ref 0), some (.ref 58), some (.int x3)], [.int 0], qMM m165 m170 lm)) rfl ?_
          obtain rfl := (Option.some.inj h).symm
          rw [hr _ _ _ _ rfl]
          exact q_ev_ret rfl rfl
      rw [if_neg hc173] at h
      by_cases hc181 : (xs x3.toNatClampNeg &&& 31) = 17
      · rw [if_pos hc181] at h
        refine q_ev_sw (v := 617) (a := 617) (show q_sw (xs x3.toNatClampNeg &&& 31) 839 0 [156, 179, 192, 205, 238, 271, 294, 317, 350, 403, 436, 449, 482, 505, 518, 541, 584, 617, 630, 643, 666, 689, 723, 756, 779, 802, 825] = 617 by rw [hc181]; rfl) rfl rfl ?_
        refine q_ev_run 1 (S' := (618, [some (.ref 1000), some (.ref 0), some (.ref 58), some (.int x3)], [.ref 0], qMM mc mm lm)) rfl ?_
        obtain ⟨⟨r174, m175⟩, hf176, h⟩ := Option.bind_eq_some_iff.mp h
        try dsimp only at h
        refine q_ev_call (S' := (621, [some (.ref 1000), some (.ref 0), some (.ref 58), some (.int x3)], [], qMM mc mm lm)) rfl (by omega) (T_AT_forget (by first | omega | decide) hf176) ?_
        refine q_ev_eq (S' := (621, [some (.ref 1000), some (.ref 0), some (.ref 58), some (.int x3)], [.int r174], qMM m175 mm lm)) rfl ?_
        refine q_ev_run 1 (S' := (622, [some (.ref 1000), some (.ref 0), some (.ref 58), some (.int x3)], [.ref 58, .int r174], qMM m175 mm lm)) rfl ?_
        obtain ⟨⟨r177, m178⟩, hf179, h⟩ := Option.bind_eq_some_iff.mp h
        try dsimp only at h
        refine q_ev_call (S' := (625, [some (.ref 1000), some (.ref 0), some (.ref 58), some (.int x3)], [.int r174], qMM m175 mm lm)) rfl (by omega) (T_Mo_forget (by first | omega | decide) hf179) ?_
        refine q_ev_eq (S' := (625, [some (.ref 1000), some (.ref 0), some (.ref 58), some (.int x3)], [.int r177, .int r174], qMM m175 m178 lm)) rfl ?_
        by_cases hc180 : r174 = r177
        · rw [if_pos hc180] at h
          refine q_ev_brT hc180 (a := 839) (b := 628) rfl ?_
          refine q_ev_run 2 (S' := (18, [some (.ref 1000), some (.ref 0), some (.ref 58), some (.int (x3 + 5))], [], qMM m175 m178 lm)) rfl ?_
          exact ih m175 m178 lm (x3 + 5) _ h hr hk
        · rw [if_neg hc180] at h
          refine q_ev_brF hc180 (a := 839) (b := 628) rfl ?_
          refine q_ev_run 1 (S' := (629, [some (.ref 1000), some (.ref 0), some (.ref 58), some (.int x3)], [.int 0], qMM m175 m178 lm)) rfl ?_
          obtain rfl := (Option.some.inj h).symm
          rw [hr _ _ _ _ rfl]
          exact q_ev_ret rfl rfl
      rw [if_neg hc181] at h
      by_cases hc189 : (xs x3.toNatClampNeg &&& 31) = 18
      · rw [if_pos hc189] at h
        refine q_ev_sw (v := 630) (a := 630) (show q_sw (xs x3.toNatClampNeg &&& 31) 839 0 [156, 179, 192, 205, 238, 271, 294, 317, 350, 403, 436, 449, 482, 505, 518, 541, 584, 617, 630, 643, 666, 689, 723, 756, 779, 802, 825] = 630 by rw [hc189]; rfl) rfl rfl ?_
        refine q_ev_run 1 (S' := (631, [some (.ref 1000), some (.ref 0), some (.ref 58), some (.int x3)], [.ref 0], qMM mc mm lm)) rfl ?_
        obtain ⟨⟨r182, m183⟩, hf184, h⟩ := Option.bind_eq_some_iff.mp h
        try dsimp only at h
        refine q_ev_call (S' := (634, [some (.ref 1000), some (.ref 0), some (.ref 58), some (.int x3)], [], qMM mc mm lm)) rfl (by omega) (T_AT_fits (by first | omega | decide) hf184) ?_
        refine q_ev_eq (S' := (634, [some (.ref 1000), some (.ref 0), some (.ref 58), some (.int x3)], [.int r182], qMM m183 mm lm)) rfl ?_
        refine q_ev_run 1 (S' := (635, [some (.ref 1000), some (.ref 0), some (.ref 58), some (.int x3)], [.ref 58, .int r182], qMM m183 mm lm)) rfl ?_
        obtain ⟨⟨r185, m186⟩, hf187, h⟩ := Option.bind_eq_some_iff.mp h
        try dsimp only at h
        refine q_ev_call (S' := (638, [some (.ref 1000), some (.ref 0), some (.ref 58), some (.int x3)], [.int r182], qMM m183 mm lm)) rfl (by omega) (T_Mo_fits (by first | omega | decide) hf187) ?_
        refine q_ev_eq (S' := (638, [some (.ref 1000), some (.ref 0), some (.ref 58), some (.int x3)], [.int r185, .int r182], qMM m183 m186 lm)) rfl ?_
        by_cases hc188 : r182 = r185
        · rw [if_pos hc188] at h
          refine q_ev_brT hc188 (a := 839) (b := 641) rfl ?_
          refine q_ev_run 2 (S' := (18, [some (.ref 1000), some (.ref 0), some (.ref 58), some (.int (x3 + 5))], [], qMM m183 m186 lm)) rfl ?_
          exact ih m183 m186 lm (x3 + 5) _ h hr hk
        · rw [if_neg hc188] at h
          refine q_ev_brF hc188 (a := 839) (b := 641) rfl ?_
          refine q_ev_run 1 (S' := (642, [some (.ref 1000), some (.ref 0), some (.ref 58), some (.int x3)], [.int 0], qMM m183 m186 lm)) rfl ?_
          obtain rfl := (Option.some.inj h).symm
          rw [hr _ _ _ _ rfl]
          exact q_ev_ret rfl rfl
      rw [if_neg hc189] at h
      by_cases hc199 : (xs x3.toNatClampNeg &&& 31) = 19
      · rw [if_pos hc199] at h
        refine q_ev_sw (v := 643) (a := 643) (show q_sw (xs x3.toNatClampNeg &&& 31) 839 0 [156, 179, 192, 205, 238, 271, 294, 317, 350, 403, 436, 449, 482, 505, 518, 541, 584, 617, 630, 643, 666, 689, 723, 756, 779, 802, 825] = 643 by rw [hc199]; rfl) rfl rfl ?_
        refine q_ev_run 5 (S' := (648, [some (.ref 1000), some (.ref 0), some (.ref 58), some (.int x3)], [.int (x3 + 1), .ref 1000, .ref 0], qMM mc mm lm)) rfl ?_
        obtain ⟨hb190, h⟩ := q_cd h
        refine q_ev_chk (b := q_in (x3 + 1) Ln && Nat.ble Ln 1000000) hb190 (S' := (649, [some (.ref 1000), some (.ref 0), some (.ref 58), some (.int x3)], [.int (xs ((x3 + 1)).toNatClampNeg), .ref 0], qMM mc mm lm)) rfl ?_
        obtain ⟨⟨r191, m192⟩, hf193, h⟩ := Option.bind_eq_some_iff.mp h
        try dsimp only at h
        refine q_ev_call (S' := (652, [some (.ref 1000), some (.ref 0), some (.ref 58), some (.int x3)], [], qMM mc mm lm)) rfl (by omega) (T_AT_sure (by first | omega | decide) hf193) ?_
        refine q_ev_eq (S' := (652, [some (.ref 1000), some (.ref 0), some (.ref 58), some (.int x3)], [.int r191], qMM m192 mm lm)) rfl ?_
        refine q_ev_run 5 (S' := (657, [some (.ref 1000), some (.ref 0), some (.ref 58), some (.int x3)], [.int (x3 + 1), .ref 1000, .ref 58, .int r191], qMM m192 mm lm)) rfl ?_
        obtain ⟨hb194, h⟩ := q_cd h
        refine q_ev_chk (b := q_in (x3 + 1) Ln && Nat.ble Ln 1000000) hb194 (S' := (658, [some (.ref 1000), some (.ref 0), some (.ref 58), some (.int x3)], [.int (xs ((x3 + 1)).toNatClampNeg), .ref 58, .int r191], qMM m192 mm lm)) rfl ?_
        obtain ⟨⟨r195, m196⟩, hf197, h⟩ := Option.bind_eq_some_iff.mp h
        try dsimp only at h
        refine q_ev_call (S' := (661, [some (.ref 1000), some (.ref 0), some (.ref 58), some (.int x3)], [.int r191], qMM m192 mm lm)) rfl (by omega) (T_Mo_sure (by first | omega | decide) hf197) ?_
        refine q_ev_eq (S' := (661, [some (.ref 1000), some (.ref 0), some (.ref 58), some (.int x3)], [.int r195, .int r191], qMM m192 m196 lm)) rfl ?_
        by_cases hc198 : r191 = r195
        · rw [if_pos hc198] at h
          refine q_ev_brT hc198 (a := 839) (b := 664) rfl ?_
          refine q_ev_run 2 (S' := (18, [some (.ref 1000), some (.ref 0), some (.ref 58), some (.int (x3 + 5))], [], qMM m192 m196 lm)) rfl ?_
          exact ih m192 m196 lm (x3 + 5) _ h hr hk
        · rw [if_neg hc198] at h
          refine q_ev_brF hc198 (a := 839) (b := 664) rfl ?_
          refine q_ev_run 1 (S' := (665, [some (.ref 1000), some (.ref 0), some (.ref 58), some (.int x3)], [.int 0], qMM m192 m196 lm)) rfl ?_
          obtain rfl := (Option.some.inj h).symm
          rw [hr _ _ _ _ rfl]
          exact q_ev_ret rfl rfl
      rw [if_neg hc199] at h
      by_cases hc207 : (xs x3.toNatClampNeg &&& 31) = 20
      · rw [if_pos hc207] at h
        refine q_ev_sw (v := 666) (a := 666) (show q_sw (xs x3.toNatClampNeg &&& 31) 839 0 [156, 179, 192, 205, 238, 271, 294, 317, 350, 403, 436, 449, 482, 505, 518, 541, 584, 617, 630, 643, 666, 689, 723, 756, 779, 802, 825] = 666 by rw [hc207]; rfl) rfl rfl ?_
        refine q_ev_run 5 (S' := (671, [some (.ref 1000), some (.ref 0), some (.ref 58), some (.int x3)], [.int (x3 + 1), .ref 1000, .ref 0], qMM mc mm lm)) rfl ?_
        obtain ⟨hb200, h⟩ := q_cd h
        refine q_ev_chk (b := q_in (x3 + 1) Ln && Nat.ble Ln 1000000) hb200 (S' := (672, [some (.ref 1000), some (.ref 0), some (.ref 58), some (.int x3)], [.int (xs ((x3 + 1)).toNatClampNeg), .ref 0], qMM mc mm lm)) rfl ?_
        obtain ⟨r201, hf202, h⟩ := Option.bind_eq_some_iff.mp h
        try dsimp only at h
        refine q_ev_call (S' := (675, [some (.ref 1000), some (.ref 0), some (.ref 58), some (.int x3)], [], qMM mc mm lm)) rfl (by omega) (T_AT_ask (by first | omega | decide) hf202) ?_
        refine q_ev_eq (S' := (675, [some (.ref 1000), some (.ref 0), some (.ref 58), some (.int x3)], [.int r201], qMM mc mm lm)) rfl ?_
        refine q_ev_run 5 (S' := (680, [some (.ref 1000), some (.ref 0), some (.ref 58), some (.int x3)], [.int (x3 + 1), .ref 1000, .ref 58, .int r201], qMM mc mm lm)) rfl ?_
        obtain ⟨hb203, h⟩ := q_cd h
        refine q_ev_chk (b := q_in (x3 + 1) Ln && Nat.ble Ln 1000000) hb203 (S' := (681, [some (.ref 1000), some (.ref 0), some (.ref 58), some (.int x3)], [.int (xs ((x3 + 1)).toNatClampNeg), .ref 58, .int r201], qMM mc mm lm)) rfl ?_
        obtain ⟨r204, hf205, h⟩ := Option.bind_eq_some_iff.mp h
        try dsimp only at h
        refine q_ev_call (S' := (684, [some (.ref 1000), some (.ref 0), some (.ref 58), some (.int x3)], [.int r201], qMM mc mm lm)) rfl (by omega) (T_Mo_ask (by first | omega | decide) hf205) ?_
        refine q_ev_eq (S' := (684, [some (.ref 1000), some (.ref 0), some (.ref 58), some (.int x3)], [.int r204, .int r201], qMM mc mm lm)) rfl ?_
        by_cases hc206 : r201 = r204
        · rw [if_pos hc206] at h
          refine q_ev_brT hc206 (a := 839) (b := 687) rfl ?_
          refine q_ev_run 2 (S' := (18, [some (.ref 1000), some (.ref 0), some (.ref 58), some (.int (x3 + 5))], [], qMM mc mm lm)) rfl ?_
          exact ih mc mm lm (x3 + 5) _ h hr hk
        · rw [if_neg hc206] at h
          refine q_ev_brF hc206 (a := 839) (b := 687) rfl ?_
          refine q_ev_run 1 (S' := (688, [some (.ref 1000), some (.ref 0), some (.ref 58), some (.int x3)], [.int 0], qMM mc mm lm)) rfl ?_
          obtain rfl := (Option.some.inj h).symm
          rw [hr _ _ _ _ rfl]
          exact q_ev_ret rfl rfl
      rw [if_neg hc207] at h
      by_cases hc217 : (xs x3.toNatClampNeg &&& 31) = 21
      · rw [if_pos hc217] at h
        refine q_ev_sw (v := 689) (a := 689) (show q_sw (xs x3.toNatClampNeg &&& 31) 839 0 [156, 179, 192, 205, 238, 271, 294, 317, 350, 403, 436, 449, 482, 505, 518, 541, 584, 617, 630, 643, 666, 689, 723, 756, 779, 802, 825] = 689 by rw [hc217]; rfl) rfl rfl ?_
        refine q_ev_run 5 (S' := (694, [some (.ref 1000), some (.ref 0), some (.ref 58), some (.int x3)], [.int (x3 + 1), .ref 1000, .ref 0], qMM mc mm lm)) rfl ?_
        obtain ⟨hb208, h⟩ := q_cd h
        refine q_ev_chk (b := q_in (x3 + 1) Ln && Nat.ble Ln 1000000) hb208 (S' := (695, [some (.ref 1000), some (.ref 0), some (.ref 58), some (.int x3)], [.int (xs ((x3 + 1)).toNatClampNeg), .ref 0], qMM mc mm lm)) rfl ?_
        refine q_ev_run 4 (S' := (699, [some (.ref 1000), some (.ref 0), some (.ref 58), some (.int x3)], [.int (x3 + 2), .ref 1000, .int (xs ((x3 + 1)).toNatClampNeg), .ref 0], qMM mc mm lm)) rfl ?_
        obtain ⟨hb209, h⟩ := q_cd h
        refine q_ev_chk (b := q_in (x3 + 2) Ln && Nat.ble Ln 1000000) hb209 (S' := (700, [some (.ref 1000), some (.ref 0), some (.ref 58), some (.int x3)], [.int (xs ((x3 + 2)).toNatClampNeg), .int (xs ((x3 + 1)).toNatClampNeg), .ref 0], qMM mc mm lm)) rfl ?_
        obtain ⟨r210, hf211, h⟩ := Option.bind_eq_some_iff.mp h
        try dsimp only at h
        refine q_ev_call (S' := (703, [some (.ref 1000), some (.ref 0), some (.ref 58), some (.int x3)], [], qMM mc mm lm)) rfl (by omega) (T_AT_bet (by first | omega | decide) hf211) ?_
        refine q_ev_eq (S' := (703, [some (.ref 1000), some (.ref 0), some (.ref 58), some (.int x3)], [.long r210], qMM mc mm lm)) rfl ?_
        refine q_ev_run 5 (S' := (708, [some (.ref 1000), some (.ref 0), some (.ref 58), some (.int x3)], [.int (x3 + 1), .ref 1000, .ref 58, .long r210], qMM mc mm lm)) rfl ?_
        obtain ⟨hb212, h⟩ := q_cd h
        refine q_ev_chk (b := q_in (x3 + 1) Ln && Nat.ble Ln 1000000) hb212 (S' := (709, [some (.ref 1000), some (.ref 0), some (.ref 58), some (.int x3)], [.int (xs ((x3 + 1)).toNatClampNeg), .ref 58, .long r210], qMM mc mm lm)) rfl ?_
        refine q_ev_run 4 (S' := (713, [some (.ref 1000), some (.ref 0), some (.ref 58), some (.int x3)], [.int (x3 + 2), .ref 1000, .int (xs ((x3 + 1)).toNatClampNeg), .ref 58, .long r210], qMM mc mm lm)) rfl ?_
        obtain ⟨hb213, h⟩ := q_cd h
        refine q_ev_chk (b := q_in (x3 + 2) Ln && Nat.ble Ln 1000000) hb213 (S' := (714, [some (.ref 1000), some (.ref 0), some (.ref 58), some (.int x3)], [.int (xs ((x3 + 2)).toNatClampNeg), .int (xs ((x3 + 1)).toNatClampNeg), .ref 58, .long r210], qMM mc mm lm)) rfl ?_
        obtain ⟨r214, hf215, h⟩ := Option.bind_eq_some_iff.mp h
        try dsimp only at h
        refine q_ev_call (S' := (717, [some (.ref 1000), some (.ref 0), some (.ref 58), some (.int x3)], [.long r210], qMM mc mm lm)) rfl (by omega) (T_Mo_bet (by first | omega | decide) hf215) ?_
        refine q_ev_eq (S' := (717, [some (.ref 1000), some (.ref 0), some (.ref 58), some (.int x3)], [.long r214, .long r210], qMM mc mm lm)) rfl ?_
        refine q_ev_run 1 (S' := (718, [some (.ref 1000), some (.ref 0), some (.ref 58), some (.int x3)], [.int (lg_cmp r210 r214)], qMM mc mm lm)) rfl ?_
        by_cases hc216 : (lg_cmp r210 r214) = 0
        · rw [if_pos hc216] at h
          refine q_ev_brT hc216 (a := 839) (b := 721) rfl ?_
          refine q_ev_run 2 (S' := (18, [some (.ref 1000), some (.ref 0), some (.ref 58), some (.int (x3 + 5))], [], qMM mc mm lm)) rfl ?_
          exact ih mc mm lm (x3 + 5) _ h hr hk
        · rw [if_neg hc216] at h
          refine q_ev_brF hc216 (a := 839) (b := 721) rfl ?_
          refine q_ev_run 1 (S' := (722, [some (.ref 1000), some (.ref 0), some (.ref 58), some (.int x3)], [.int 0], qMM mc mm lm)) rfl ?_
          obtain rfl := (Option.some.inj h).symm
          rw [hr _ _ _ _ rfl]
          exact q_ev_ret rfl rfl
      rw [if_neg hc217] at h
      by_cases hc229 : (xs x3.toNatClampNeg &&& 31) = 22
      · rw [if_pos hc229] at h
        refine q_ev_sw (v := 723) (a := 723) (show q_sw (xs x3.toNatClampNeg &&& 31) 839 0 [156, 179, 192, 205, 238, 271, 294, 317, 350, 403, 436, 449, 482, 505, 518, 541, 584, 617, 630, 643, 666, 689, 723, 756, 779, 802, 825] = 723 by rw [hc229]; rfl) rfl rfl ?_
        refine q_ev_run 5 (S' := (728, [some (.ref 1000), some (.ref 0), some (.ref 58), some (.int x3)], [.int (x3 + 1), .ref 1000, .ref 0], qMM mc mm lm)) rfl ?_
        obtain ⟨hb218, h⟩ := q_cd h
        refine q_ev_chk (b := q_in (x3 + 1) Ln && Nat.ble Ln 1000000) hb218 (S' := (729, [some (.ref 1000), some (.ref 0), some (.ref 58), some (.int x3)], [.int (xs ((x3 + 1)).toNatClampNeg), .ref 0], qMM mc mm lm)) rfl ?_
        refine q_ev_run 4 (S' := (733, [some (.ref 1000), some (.ref 0), some (.ref 58), some (.int x3)], [.int (x3 + 2), .ref 1000, .int (xs ((x3 + 1)).toNatClampNeg), .ref 0], qMM mc mm lm)) rfl ?_
        obtain ⟨hb219, h⟩ := q_cd h
        refine q_ev_chk (b := q_in (x3 + 2) Ln && Nat.ble Ln 1000000) hb219 (S' := (734, [some (.ref 1000), some (.ref 0), some (.ref 58), some (.int x3)], [.int (xs ((x3 + 2)).toNatClampNeg), .int (xs ((x3 + 1)).toNatClampNeg), .ref 0], qMM mc mm lm)) rfl ?_
        obtain ⟨⟨r220, lm221⟩, hf222, h⟩ := Option.bind_eq_some_iff.mp h
        try dsimp only at h
        refine q_ev_call (S' := (737, [some (.ref 1000), some (.ref 0), some (.ref 58), some (.int x3)], [], qMM mc mm lm)) rfl (by omega) (T_AT_rate (by first | omega | decide) hf222) ?_
        refine q_ev_eq (S' := (737, [some (.ref 1000), some (.ref 0), some (.ref 58), some (.int x3)], [.int r220], qMM mc mm lm221)) rfl ?_
        refine q_ev_run 5 (S' := (742, [some (.ref 1000), some (.ref 0), some (.ref 58), some (.int x3)], [.int (x3 + 1), .ref 1000, .ref 58, .int r220], qMM mc mm lm221)) rfl ?_
        obtain ⟨hb223, h⟩ := q_cd h
        refine q_ev_chk (b := q_in (x3 + 1) Ln && Nat.ble Ln 1000000) hb223 (S' := (743, [some (.ref 1000), some (.ref 0), some (.ref 58), some (.int x3)], [.int (xs ((x3 + 1)).toNatClampNeg), .ref 58, .int r220], qMM mc mm lm221)) rfl ?_
        refine q_ev_run 4 (S' := (747, [some (.ref 1000), some (.ref 0), some (.ref 58), some (.int x3)], [.int (x3 + 2), .ref 1000, .int (xs ((x3 + 1)).toNatClampNeg), .ref 58, .int r220], qMM mc mm lm221)) rfl ?_
        obtain ⟨hb224, h⟩ := q_cd h
        refine q_ev_chk (b := q_in (x3 + 2) Ln && Nat.ble Ln 1000000) hb224 (S' := (748, [some (.ref 1000), some (.ref 0), some (.ref 58), some (.int x3)], [.int (xs ((x3 + 2)).toNatClampNeg), .int (xs ((x3 + 1)).toNatClampNeg), .ref 58, .int r220], qMM mc mm lm221)) rfl ?_
        obtain ⟨⟨r225, lm226⟩, hf227, h⟩ := Option.bind_eq_some_iff.mp h
        try dsimp only at h
        refine q_ev_call (S' := (751, [some (.ref 1000), some (.ref 0), some (.ref 58), some (.int x3)], [.int r220], qMM mc mm lm221)) rfl (by omega) (T_Mo_rate (by first | omega | decide) hf227) ?_
        refine q_ev_eq (S' := (751, [some (.ref 1000), some (.ref 0), some (.ref 58), some (.int x3)], [.int r225, .int r220], qMM mc mm lm226)) rfl ?_
        by_cases hc228 : r220 = r225
        · rw [if_pos hc228] at h
          refine q_ev_brT hc228 (a := 839) (b := 754) rfl ?_
          refine q_ev_run 2 (S' := (18, [some (.ref 1000), some (.ref 0), some (.ref 58), some (.int (x3 + 5))], [], qMM mc mm lm226)) rfl ?_
          exact ih mc mm lm226 (x3 + 5) _ h hr hk
        · rw [if_neg hc228] at h
          refine q_ev_brF hc228 (a := 839) (b := 754) rfl ?_
          refine q_ev_run 1 (S' := (755, [some (.ref 1000), some (.ref 0), some (.ref 58), some (.int x3)], [.int 0], qMM mc mm lm226)) rfl ?_
          obtain rfl := (Option.some.inj h).symm
          rw [hr _ _ _ _ rfl]
          exact q_ev_ret rfl rfl
      rw [if_neg hc229] at h
      by_cases hc239 : (xs x3.toNatClampNeg &&& 31) = 23
      · rw [if_pos hc239] at h
        refine q_ev_sw (v := 756) (a := 756) (show q_sw (xs x3.toNatClampNeg &&& 31) 839 0 [156, 179, 192, 205, 238, 271, 294, 317, 350, 403, 436, 449, 482, 505, 518, 541, 584, 617, 630, 643, 666, 689, 723, 756, 779, 802, 825] = 756 by rw [hc239]; rfl) rfl rfl ?_
        refine q_ev_run 5 (S' := (761, [some (.ref 1000), some (.ref 0), some (.ref 58), some (.int x3)], [.int (x3 + 1), .ref 1000, .ref 0], qMM mc mm lm)) rfl ?_
        obtain ⟨hb230, h⟩ := q_cd h
        refine q_ev_chk (b := q_in (x3 + 1) Ln && Nat.ble Ln 1000000) hb230 (S' := (762, [some (.ref 1000), some (.ref 0), some (.ref 58), some (.int x3)], [.int (xs ((x3 + 1)).toNatClampNeg), .ref 0], qMM mc mm lm)) rfl ?_
        obtain ⟨⟨r231, m232⟩, hf233, h⟩ := Option.bind_eq_some_iff.mp h
        try dsimp only at h
        refine q_ev_call (S' := (765, [some (.ref 1000), some (.ref 0), some (.ref 58), some (.int x3)], [], qMM mc mm lm)) rfl (by omega) (T_AT_keep (by first | omega | decide) hf233) ?_
        refine q_ev_eq (S' := (765, [some (.ref 1000), some (.ref 0), some (.ref 58), some (.int x3)], [.int r231], qMM m232 mm lm)) rfl ?_
        refine q_ev_run 5 (S' := (770, [some (.ref 1000), some (.ref 0), some (.ref 58), some (.int x3)], [.int (x3 + 1), .ref 1000, .ref 58, .int r231], qMM m232 mm lm)) rfl ?_
        obtain ⟨hb234, h⟩ := q_cd h
        refine q_ev_chk (b := q_in (x3 + 1) Ln && Nat.ble Ln 1000000) hb234 (S' := (771, [some (.ref 1000), some (.ref 0), some (.ref 58), some (.int x3)], [.int (xs ((x3 + 1)).toNatClampNeg), .ref 58, .int r231], qMM m232 mm lm)) rfl ?_
        obtain ⟨⟨r235, m236⟩, hf237, h⟩ := Option.bind_eq_some_iff.mp h
        try dsimp only at h
        refine q_ev_call (S' := (774, [some (.ref 1000), some (.ref 0), some (.ref 58), some (.int x3)], [.int r231], qMM m232 mm lm)) rfl (by omega) (T_Mo_keep (by first | omega | decide) hf237) ?_
        refine q_ev_eq (S' := (774, [some (.ref 1000), some (.ref 0), some (.ref 58), some (.int x3)], [.int r235, .int r231], qMM m232 m236 lm)) rfl ?_
        by_cases hc238 : r231 = r235
        · rw [if_pos hc238] at h
          refine q_ev_brT hc238 (a := 839) (b := 777) rfl ?_
          refine q_ev_run 2 (S' := (18, [some (.ref 1000), some (.ref 0), some (.ref 58), some (.int (x3 + 5))], [], qMM m232 m236 lm)) rfl ?_
          exact ih m232 m236 lm (x3 + 5) _ h hr hk
        · rw [if_neg hc238] at h
          refine q_ev_brF hc238 (a := 839) (b := 777) rfl ?_
          refine q_ev_run 1 (S' := (778, [some (.ref 1000), some (.ref 0), some (.ref 58), some (.int x3)], [.int 0], qMM m232 m236 lm)) rfl ?_
          obtain rfl := (Option.some.inj h).symm
          rw [hr _ _ _ _ rfl]
          exact q_ev_ret rfl rfl
      rw [if_neg hc239] at h
      by_cases hc249 : (xs x3.toNatClampNeg &&& 31) = 24
      · rw [if_pos hc249] at h
        refine q_ev_sw (v := 779) (a := 779) (show q_sw (xs x3.toNatClampNeg &&& 31) 839 0 [156, 179, 192, 205, 238, 271, 294, 317, 350, 403, 436, 449, 482, 505, 518, 541, 584, 617, 630, 643, 666, 689, 723, 756, 779, 802, 825] = 779 by rw [hc249]; rfl) rfl rfl ?_
        refine q_ev_run 5 (S' := (784, [some (.ref 1000), some (.ref 0), some (.ref 58), some (.int x3)], [.int (x3 + 1), .ref 1000, .ref 0], qMM mc mm lm)) rfl ?_
        obtain ⟨hb240, h⟩ := q_cd h
        refine q_ev_chk (b := q_in (x3 + 1) Ln && Nat.ble Ln 1000000) hb240 (S' := (785, [some (.ref 1000), some (.ref 0), some (.ref 58), some (.int x3)], [.int (xs ((x3 + 1)).toNatClampNeg), .ref 0], qMM mc mm lm)) rfl ?_
        obtain ⟨⟨r241, m242⟩, hf243, h⟩ := Option.bind_eq_some_iff.mp h
        try dsimp only at h
        refine q_ev_call (S' := (788, [some (.ref 1000), some (.ref 0), some (.ref 58), some (.int x3)], [], qMM mc mm lm)) rfl (by omega) (T_AT_back (by first | omega | decide) hf243) ?_
        refine q_ev_eq (S' := (788, [some (.ref 1000), some (.ref 0), some (.ref 58), some (.int x3)], [.int r241], qMM m242 mm lm)) rfl ?_
        refine q_ev_run 5 (S' := (793, [some (.ref 1000), some (.ref 0), some (.ref 58), some (.int x3)], [.int (x3 + 1), .ref 1000, .ref 58, .int r241], qMM m242 mm lm)) rfl ?_
        obtain ⟨hb244, h⟩ := q_cd h
        refine q_ev_chk (b := q_in (x3 + 1) Ln && Nat.ble Ln 1000000) hb244 (S' := (794, [some (.ref 1000), some (.ref 0), some (.ref 58), some (.int x3)], [.int (xs ((x3 + 1)).toNatClampNeg), .ref 58, .int r241], qMM m242 mm lm)) rfl ?_
        obtain ⟨⟨r245, m246⟩, hf247, h⟩ := Option.bind_eq_some_iff.mp h
        try dsimp only at h
        refine q_ev_call (S' := (797, [some (.ref 1000), some (.ref 0), some (.ref 58), some (.int x3)], [.int r241], qMM m242 mm lm)) rfl (by omega) (T_Mo_back (by first | omega | decide) hf247) ?_
        refine q_ev_eq (S' := (797, [some (.ref 1000), some (.ref 0), some (.ref 58), some (.int x3)], [.int r245, .int r241], qMM m242 m246 lm)) rfl ?_
        by_cases hc248 : r241 = r245
        · rw [if_pos hc248] at h
          refine q_ev_brT hc248 (a := 839) (b := 800) rfl ?_
          refine q_ev_run 2 (S' := (18, [some (.ref 1000), some (.ref 0), some (.ref 58), some (.int (x3 + 5))], [], qMM m242 m246 lm)) rfl ?_
          exact ih m242 m246 lm (x3 + 5) _ h hr hk
        · rw [if_neg hc248] at h
          refine q_ev_brF hc248 (a := 839) (b := 800) rfl ?_
          refine q_ev_run 1 (S' := (801, [some (.ref 1000), some (.ref 0), some (.ref 58), some (.int x3)], [.int 0], qMM m242 m246 lm)) rfl ?_
          obtain rfl := (Option.some.inj h).symm
          rw [hr _ _ _ _ rfl]
          exact q_ev_ret rfl rfl
      rw [if_neg hc249] at h
      by_cases hc257 : (xs x3.toNatClampNeg &&& 31) = 25
      · rw [if_pos hc257] at h
        refine q_ev_sw (v := 802) (a := 802) (show q_sw (xs x3.toNatClampNeg &&& 31) 839 0 [156, 179, 192, 205, 238, 271, 294, 317, 350, 403, 436, 449, 482, 505, 518, 541, 584, 617, 630, 643, 666, 689, 723, 756, 779, 802, 825] = 802 by rw [hc257]; rfl) rfl rfl ?_
        refine q_ev_run 5 (S' := (807, [some (.ref 1000), some (.ref 0), some (.ref 58), some (.int x3)], [.int (x3 + 1), .ref 1000, .ref 0], qMM mc mm lm)) rfl ?_
        obtain ⟨hb250, h⟩ := q_cd h
        refine q_ev_chk (b := q_in (x3 + 1) Ln && Nat.ble Ln 1000000) hb250 (S' := (808, [some (.ref 1000), some (.ref 0), some (.ref 58), some (.int x3)], [.int (xs ((x3 + 1)).toNatClampNeg), .ref 0], qMM mc mm lm)) rfl ?_
        obtain ⟨r251, hf252, h⟩ := Option.bind_eq_some_iff.mp h
        try dsimp only at h
        refine q_ev_call (S' := (811, [some (.ref 1000), some (.ref 0), some (.ref 58), some (.int x3)], [], qMM mc mm lm)) rfl (by omega) (T_AT_count (by first | omega | decide) hf252) ?_
        refine q_ev_eq (S' := (811, [some (.ref 1000), some (.ref 0), some (.ref 58), some (.int x3)], [.int r251], qMM mc mm lm)) rfl ?_
        refine q_ev_run 5 (S' := (816, [some (.ref 1000), some (.ref 0), some (.ref 58), some (.int x3)], [.int (x3 + 1), .ref 1000, .ref 58, .int r251], qMM mc mm lm)) rfl ?_
        obtain ⟨hb253, h⟩ := q_cd h
        refine q_ev_chk (b := q_in (x3 + 1) Ln && Nat.ble Ln 1000000) hb253 (S' := (817, [some (.ref 1000), some (.ref 0), some (.ref 58), some (.int x3)], [.int (xs ((x3 + 1)).toNatClampNeg), .ref 58, .int r251], qMM mc mm lm)) rfl ?_
        obtain ⟨r254, hf255, h⟩ := Option.bind_eq_some_iff.mp h
        try dsimp only at h
        refine q_ev_call (S' := (820, [some (.ref 1000), some (.ref 0), some (.ref 58), some (.int x3)], [.int r251], qMM mc mm lm)) rfl (by omega) (T_Mo_count (by first | omega | decide) hf255) ?_
        refine q_ev_eq (S' := (820, [some (.ref 1000), some (.ref 0), some (.ref 58), some (.int x3)], [.int r254, .int r251], qMM mc mm lm)) rfl ?_
        by_cases hc256 : r251 = r254
        · rw [if_pos hc256] at h
          refine q_ev_brT hc256 (a := 839) (b := 823) rfl ?_
          refine q_ev_run 2 (S' := (18, [some (.ref 1000), some (.ref 0), some (.ref 58), some (.int (x3 + 5))], [], qMM mc mm lm)) rfl ?_
          exact ih mc mm lm (x3 + 5) _ h hr hk
        · rw [if_neg hc256] at h
          refine q_ev_brF hc256 (a := 839) (b := 823) rfl ?_
          refine q_ev_run 1 (S' := (824, [some (.ref 1000), some (.ref 0), some (.ref 58), some (.int x3)], [.int 0], qMM mc mm lm)) rfl ?_
          obtain rfl := (Option.some.inj h).symm
          rw [hr _ _ _ _ rfl]
          exact q_ev_ret rfl rfl
      rw [if_neg hc257] at h
      by_cases hc263 : (xs x3.toNatClampNeg &&& 31) = 26
      · rw [if_pos hc263] at h
        refine q_ev_sw (v := 825) (a := 825) (show q_sw (xs x3.toNatClampNeg &&& 31) 839 0 [156, 179, 192, 205, 238, 271, 294, 317, 350, 403, 436, 449, 482, 505, 518, 541, 584, 617, 630, 643, 666, 689, 723, 756, 779, 802, 825] = 825 by rw [hc263]; rfl) rfl rfl ?_
        refine q_ev_run 1 (S' := (826, [some (.ref 1000), some (.ref 0), some (.ref 58), some (.int x3)], [.ref 0], qMM mc mm lm)) rfl ?_
        obtain ⟨r258, hf259, h⟩ := Option.bind_eq_some_iff.mp h
        try dsimp only at h
        refine q_ev_call (S' := (829, [some (.ref 1000), some (.ref 0), some (.ref 58), some (.int x3)], [], qMM mc mm lm)) rfl (by omega) (T_AT_trace (by first | omega | decide) hf259) ?_
        refine q_ev_eq (S' := (829, [some (.ref 1000), some (.ref 0), some (.ref 58), some (.int x3)], [.long r258], qMM mc mm lm)) rfl ?_
        refine q_ev_run 1 (S' := (830, [some (.ref 1000), some (.ref 0), some (.ref 58), some (.int x3)], [.ref 58, .long r258], qMM mc mm lm)) rfl ?_
        obtain ⟨r260, hf261, h⟩ := Option.bind_eq_some_iff.mp h
        try dsimp only at h
        refine q_ev_call (S' := (833, [some (.ref 1000), some (.ref 0), some (.ref 58), some (.int x3)], [.long r258], qMM mc mm lm)) rfl (by omega) (T_Mo_trace (by first | omega | decide) hf261) ?_
        refine q_ev_eq (S' := (833, [some (.ref 1000), some (.ref 0), some (.ref 58), some (.int x3)], [.long r260, .long r258], qMM mc mm lm)) rfl ?_
        refine q_ev_run 1 (S' := (834, [some (.ref 1000), some (.ref 0), some (.ref 58), some (.int x3)], [.int (lg_cmp r258 r260)], qMM mc mm lm)) rfl ?_
        by_cases hc262 : (lg_cmp r258 r260) = 0
        · rw [if_pos hc262] at h
          refine q_ev_brT hc262 (a := 839) (b := 837) rfl ?_
          refine q_ev_run 2 (S' := (18, [some (.ref 1000), some (.ref 0), some (.ref 58), some (.int (x3 + 5))], [], qMM mc mm lm)) rfl ?_
          exact ih mc mm lm (x3 + 5) _ h hr hk
        · rw [if_neg hc262] at h
          refine q_ev_brF hc262 (a := 839) (b := 837) rfl ?_
          refine q_ev_run 1 (S' := (838, [some (.ref 1000), some (.ref 0), some (.ref 58), some (.int x3)], [.int 0], qMM mc mm lm)) rfl ?_
          obtain rfl := (Option.some.inj h).symm
          rw [hr _ _ _ _ rfl]
          exact q_ev_ret rfl rfl
      rw [if_neg hc263] at h
      refine q_ev_sw (v := 839) (a := 839) (show q_sw (xs x3.toNatClampNeg &&& 31) 839 0 [156, 179, 192, 205, 238, 271, 294, 317, 350, 403, 436, 449, 482, 505, 518, 541, 584, 617, 630, 643, 666, 689, 723, 756, 779, 802, 825] = 839 from q_sw_nd (by show (xs x3.toNatClampNeg &&& 31) ∉ ([0, 1, 2, 3, 4, 5, 6, 7, 8, 9, 10, 11, 12, 13, 14, 15, 16, 17, 18, 19, 20, 21, 22, 23, 24, 25, 26] : List Int32); simp [hc13, hc21, hc29, hc39, hc49, hc57, hc65, hc75, hc91, hc103, hc111, hc121, hc129, hc137, hc147, hc161, hc173, hc181, hc189, hc199, hc207, hc217, hc229, hc239, hc249, hc257, hc263])) rfl rfl ?_
      refine q_ev_run 2 (S' := (18, [some (.ref 1000), some (.ref 0), some (.ref 58), some (.int (x3 + 5))], [], qMM mc mm lm)) rfl ?_
      exact ih mc mm lm (x3 + 5) _ h hr hk
