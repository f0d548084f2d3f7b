theorem q_step {G : qG} {l : Launch} {nf : Nat} (ih : q_PW G l nf) : q_PW G l (nf + 1) := by
  intro d mi S r M' h p e R s m args below meth c C mc ms hmc hms
  obtain ⟨pc, L, st, M⟩ := S
  have h0 := h
  rw [q_ex] at h
  cases ha : q_act (qgT G) mi (pc, L, st, M) with
  | none => rw [ha] at h; cases h
  | some a =>
    rw [ha] at h
    have ha0 := ha
    unfold q_act at ha
    split at ha
    · next i n hcode =>
      dsimp only at ha hcode
      obtain ⟨hmi, rr, hdec, hln, hcv⟩ := q_code_spec hcode
      have plain : q_Gd G p l e R s m args below meth c mi mc ms M'.1.length (q_sl M') (MQ below (q_Qc G r M') args s mc ms (qgF G)) a (pc, L, st, M) → q_TT G p l e R s m args below meth c mi mc ms M'.1.length (q_sl M') (MQ below (q_Qc G r M') args s mc ms (qgF G)) (pc, L, st, M) := by
        rintro ⟨S', hS', hT⟩
        subst hS'
        have g := q_ex_le2 h
        exact hT g.1 g.2 (ih d mi S' r M' h p e R s m args below meth c C mc ms hmc hms)
      have hKK := C.2.2.2.2.2.2.2.2.1
      have hts := C.2.2.2.2.2.1
      cases rr
      case aload_n j => cases hcv; exact plain (qi_aload_n C hdec (hln.resolve_left (fun z => by simp [q_ln] at z)).symm ha)
      case aload j => cases hcv; exact plain (qi_aload C hdec (hln.resolve_left (fun z => by simp [q_ln] at z)).symm ha)
      case iload_n j => cases hcv; exact plain (qi_iload_n C hdec (hln.resolve_left (fun z => by simp [q_ln] at z)).symm ha)
      case iload j => cases hcv; exact plain (qi_iload C hdec (hln.resolve_left (fun z => by simp [q_ln] at z)).symm ha)
      case lload_n j => cases hcv; exact plain (qi_lload_n C hdec (hln.resolve_left (fun z => by simp [q_ln] at z)).symm ha)
      case lload j => cases hcv; exact plain (qi_lload C hdec (hln.resolve_left (fun z => by simp [q_ln] at z)).symm ha)
      case istore_n j =>
        unfold q_cv at hcv
        dsimp only at hcv
        cases hlg : q_lg mi with
        | false => rw [hlg] at hcv; cases hcv; exact plain (qi_istore_n hlg C hdec (hln.resolve_left (fun z => by simp [q_ln] at z)).symm ha)
        | true => rw [hlg] at hcv; cases hcv; exact plain (qi_fstore_n hlg C hdec (hln.resolve_left (fun z => by simp [q_ln] at z)).symm ha)
      case astore_n j =>
        unfold q_cv at hcv
        dsimp only at hcv
        cases hlg : q_lg mi with
        | false => rw [hlg] at hcv; cases hcv; exact plain (qi_astore_n hlg C hdec (hln.resolve_left (fun z => by simp [q_ln] at z)).symm ha)
        | true => rw [hlg] at hcv; cases hcv
      case lstore_n j =>
        unfold q_cv at hcv
        dsimp only at hcv
        cases hlg : q_lg mi with
        | true => rw [hlg] at hcv; cases hcv; exact plain (qi_lstore_n hlg C hdec (hln.resolve_left (fun z => by simp [q_ln] at z)).symm ha)
        | false => rw [hlg] at hcv; cases hcv
      case istore j =>
        unfold q_cv at hcv
        dsimp only at hcv
        cases hlg : q_lg mi with
        | false => rw [hlg] at hcv; cases hcv; exact plain (qi_istore hlg C hdec (hln.resolve_left (fun z => by simp [q_ln] at z)).symm ha)
        | true => rw [hlg] at hcv; cases hcv; exact plain (qi_fstore hlg C hdec (hln.resolve_left (fun z => by simp [q_ln] at z)).symm ha)
      case astore j =>
        unfold q_cv at hcv
        dsimp only at hcv
        cases hlg : q_lg mi with
        | false => rw [hlg] at hcv; cases hcv; exact plain (qi_astore hlg C hdec (hln.resolve_left (fun z => by simp [q_ln] at z)).symm ha)
        | true => rw [hlg] at hcv; cases hcv
      case lstore j =>
        unfold q_cv at hcv
        dsimp only at hcv
        cases hlg : q_lg mi with
        | true => rw [hlg] at hcv; cases hcv; exact plain (qi_lstore hlg C hdec (hln.resolve_left (fun z => by simp [q_ln] at z)).symm ha)
        | false => rw [hlg] at hcv; cases hcv
      case iconst v => cases hcv; exact plain (qi_iconst C hdec (hln.resolve_left (fun z => by simp [q_ln] at z)).symm ha)
      case bipush v =>
        unfold q_cv at hcv
        dsimp only at hcv
        split at hcv
        · next hv => cases hcv; exact plain (qi_bipush hv C hdec (hln.resolve_left (fun z => by simp [q_ln] at z)).symm ha)
        · cases hcv
      case sipush v =>
        unfold q_cv at hcv
        dsimp only at hcv
        split at hcv
        · next hv => cases hcv; exact plain (qi_sipush hv C hdec (hln.resolve_left (fun z => by simp [q_ln] at z)).symm ha)
        · cases hcv
      case ldc i =>
        unfold q_cv at hcv
        dsimp only at hcv
        cases hv : q_fnd q_ck (q_rc mi) i with
        | none => rw [hv] at hcv; cases hcv
        | some w =>
          obtain ⟨w, x⟩ := w
          rw [hv] at hcv
          cases hcv
          exact plain (qi_ldc hv C hdec (hln.resolve_left (fun z => by simp [q_ln] at z)).symm ha)
      case ldc_w i =>
        unfold q_cv at hcv
        dsimp only at hcv
        cases hv : q_fnd q_ck (q_rc mi) i with
        | none => rw [hv] at hcv; cases hcv
        | some w =>
          obtain ⟨w, x⟩ := w
          rw [hv] at hcv
          cases hcv
          exact plain (qi_ldc_w hv C hdec (hln.resolve_left (fun z => by simp [q_ln] at z)).symm ha)
      case ldc2_w i =>
        unfold q_cv at hcv
        dsimp only at hcv
        cases hv : q_fnd q_cj (q_rc mi) i with
        | none => rw [hv] at hcv; cases hcv
        | some w =>
          obtain ⟨w, x⟩ := w
          rw [hv] at hcv
          cases hcv
          exact plain (qi_ldc2_w hv C hdec (hln.resolve_left (fun z => by simp [q_ln] at z)).symm ha)
      case getfield i =>
        unfold q_cv at hcv
        dsimp only at hcv
        cases hv : q_fnd q_fl (q_rc mi) i with
        | none => rw [hv] at hcv; cases hcv
        | some w =>
          obtain ⟨w, x⟩ := w
          rw [hv] at hcv
          cases hcv
          exact plain (qi_getfield hv C hdec (hln.resolve_left (fun z => by simp [q_ln] at z)).symm ha)
      case getstatic i =>
        unfold q_cv at hcv
        dsimp only at hcv
        cases hv : q_fnd q_fs (q_rc mi) i with
        | none => rw [hv] at hcv; cases hcv
        | some w =>
          obtain ⟨w, x⟩ := w
          rw [hv] at hcv
          cases hcv
          exact plain (qi_getstatic hv C hdec (hln.resolve_left (fun z => by simp [q_ln] at z)).symm ha)
      case new i =>
        unfold q_cv at hcv
        dsimp only at hcv
        cases hv : q_fnd q_kl (q_rc mi) i with
        | none => rw [hv] at hcv; cases hcv
        | some w =>
          obtain ⟨w, x⟩ := w
          rw [hv] at hcv
          cases hcv
          exact plain (qi_new hv hmc hms C hdec (hln.resolve_left (fun z => by simp [q_ln] at z)).symm ha)
      case putfield i =>
        unfold q_cv at hcv
        dsimp only at hcv
        split at hcv
        · next f x hv =>
          split at hcv
          · next hfin => cases hcv; exact plain (qi_putfield hv hfin C hdec (hln.resolve_left (fun z => by simp [q_ln] at z)).symm ha)
          · cases hcv
        · cases hcv
      case lconst k => cases hcv; exact plain (qi_lconst C hdec (hln.resolve_left (fun z => by simp [q_ln] at z)).symm ha)
      case iinc j v => cases hcv; exact plain (qi_iinc C hdec (hln.resolve_left (fun z => by simp [q_ln] at z)).symm ha)
      case iadd => cases hcv; exact plain (qi_iadd C hdec (hln.resolve_left (fun z => by simp [q_ln] at z)).symm ha)
      case isub => cases hcv; exact plain (qi_isub C hdec (hln.resolve_left (fun z => by simp [q_ln] at z)).symm ha)
      case imul => cases hcv; exact plain (qi_imul C hdec (hln.resolve_left (fun z => by simp [q_ln] at z)).symm ha)
      case iand => cases hcv; exact plain (qi_iand C hdec (hln.resolve_left (fun z => by simp [q_ln] at z)).symm ha)
      case ior => cases hcv; exact plain (qi_ior C hdec (hln.resolve_left (fun z => by simp [q_ln] at z)).symm ha)
      case ixor => cases hcv; exact plain (qi_ixor C hdec (hln.resolve_left (fun z => by simp [q_ln] at z)).symm ha)
      case ishl => cases hcv; exact plain (qi_ishl C hdec (hln.resolve_left (fun z => by simp [q_ln] at z)).symm ha)
      case ishr => cases hcv; exact plain (qi_ishr C hdec (hln.resolve_left (fun z => by simp [q_ln] at z)).symm ha)
      case iushr => cases hcv; exact plain (qi_iushr C hdec (hln.resolve_left (fun z => by simp [q_ln] at z)).symm ha)
      case ladd => cases hcv; exact plain (qi_ladd C hdec (hln.resolve_left (fun z => by simp [q_ln] at z)).symm ha)
      case lmul => cases hcv; exact plain (qi_lmul C hdec (hln.resolve_left (fun z => by simp [q_ln] at z)).symm ha)
      case idiv => cases hcv; exact plain (qi_idiv C hdec (hln.resolve_left (fun z => by simp [q_ln] at z)).symm ha)
      case irem => cases hcv; exact plain (qi_irem C hdec (hln.resolve_left (fun z => by simp [q_ln] at z)).symm ha)
      case ldiv => cases hcv; exact plain (qi_ldiv C hdec (hln.resolve_left (fun z => by simp [q_ln] at z)).symm ha)
      case lrem => cases hcv; exact plain (qi_lrem C hdec (hln.resolve_left (fun z => by simp [q_ln] at z)).symm ha)
      case lcmp => cases hcv; exact plain (qi_lcmp C hdec (hln.resolve_left (fun z => by simp [q_ln] at z)).symm ha)
      case i2l => cases hcv; exact plain (qi_i2l C hdec (hln.resolve_left (fun z => by simp [q_ln] at z)).symm ha)
      case i2c => cases hcv; exact plain (qi_i2c C hdec (hln.resolve_left (fun z => by simp [q_ln] at z)).symm ha)
      case dup => cases hcv; exact plain (qi_dup C hdec (hln.resolve_left (fun z => by simp [q_ln] at z)).symm ha)
      case dup2 => cases hcv; exact plain (qi_dup2 C hdec (hln.resolve_left (fun z => by simp [q_ln] at z)).symm ha)
      case pop => cases hcv; exact plain (qi_pop C hdec (hln.resolve_left (fun z => by simp [q_ln] at z)).symm ha)
      case iaload => cases hcv; exact plain (qi_iaload C hdec (hln.resolve_left (fun z => by simp [q_ln] at z)).symm ha)
      case caload => cases hcv; exact plain (qi_caload C hdec (hln.resolve_left (fun z => by simp [q_ln] at z)).symm ha)
      case baload => cases hcv; exact plain (qi_baload C hdec (hln.resolve_left (fun z => by simp [q_ln] at z)).symm ha)
      case iastore => cases hcv; exact plain (qi_iastore C hdec (hln.resolve_left (fun z => by simp [q_ln] at z)).symm ha)
      case castore => cases hcv; exact plain (qi_castore C hdec (hln.resolve_left (fun z => by simp [q_ln] at z)).symm ha)
      case bastore => cases hcv; exact plain (qi_bastore C hdec (hln.resolve_left (fun z => by simp [q_ln] at z)).symm ha)
      case arraylength => cases hcv; exact plain (qi_arraylength C hdec (hln.resolve_left (fun z => by simp [q_ln] at z)).symm ha)
      case newarray t => cases hcv; exact plain (qi_newarray hmc hms C hdec (hln.resolve_left (fun z => by simp [q_ln] at z)).symm ha)
      case goto o =>
        unfold q_cv q_sp at hcv
        dsimp only at hcv
        split at hcv
        · next ho => cases hcv; exact plain (qi_goto ho C hdec (hln.resolve_left (fun z => by simp [q_ln] at z)).symm ha)
        · cases hcv
      case ifCond cd o =>
        unfold q_cv q_sp at hcv
        dsimp only at hcv
        split at hcv
        · next ho => cases hcv; exact plain (qi_ifCond ho C hdec (hln.resolve_left (fun z => by simp [q_ln] at z)).symm ha)
        · cases hcv
      case if_icmp cd o =>
        unfold q_cv q_sp at hcv
        dsimp only at hcv
        split at hcv
        · next ho => cases hcv; exact plain (qi_if_icmp ho C hdec (hln.resolve_left (fun z => by simp [q_ln] at z)).symm ha)
        · cases hcv
      case tableswitch dd lo hi offs =>
        unfold q_cv at hcv
        dsimp only at hcv
        split at hcv
        · next ho => cases hcv; exact plain (qi_tableswitch ho C hdec ha)
        · cases hcv
      case ireturn =>
        have hn : n = 1 := (hln.resolve_left (fun z => by simp [q_ln] at z)).symm
        subst hn
        unfold q_cv at hcv
        dsimp only at hcv
        split at hcv
        · next hrt =>
          cases hcv
          unfold q_do at ha
          dsimp only at ha
          split at ha
          · next x =>
            cases ha
            cases h
            intro H locs cells slots ls hA hc hs
            dsimp only at hc hs hA
            refine W.widen (k := mc) (n := ms) (by omega) (by omega) ?_
            exact W.iret C.1 C.2.1 (C.2.2.1.trans hrt) (q_ret_Q hKK hA rfl) hA.2.2.2.1.2.2 hdec C.2.2.2.2.2.2.1
          · cases ha
        · next hrt =>
          cases hcv
          unfold q_do at ha
          dsimp only at ha
          split at ha
          · next x =>
            obtain ⟨hb, ha⟩ := q_cd ha
            cases ha
            cases h
            intro H locs cells slots ls hA hc hs
            dsimp only at hc hs hA
            refine W.widen (k := mc) (n := ms) (by omega) (by omega) ?_
            exact W.zret C.1 C.2.1 (C.2.2.1.trans hrt) (q_bl_eq hb).1 (q_ret_Q hKK hA rfl) hA.2.2.2.1.2.2 hdec C.2.2.2.2.2.2.1
          · cases ha
        · cases hcv
      case lreturn =>
        have hn : n = 1 := (hln.resolve_left (fun z => by simp [q_ln] at z)).symm
        subst hn
        unfold q_cv at hcv
        dsimp only at hcv
        split at hcv
        · next hrt =>
          cases hcv
          unfold q_do at ha
          dsimp only at ha
          split at ha
          · next x =>
            cases ha
            cases h
            intro H locs cells slots ls hA hc hs
            dsimp only at hc hs hA
            refine W.widen (k := mc) (n := ms) (by omega) (by omega) ?_
            exact W.lret C.1 C.2.1 (C.2.2.1.trans hrt) (q_ret_Q hKK hA rfl) hA.2.2.2.1.2.2 hdec C.2.2.2.2.2.2.1
          · cases ha
        · cases hcv
      case areturn =>
        have hn : n = 1 := (hln.resolve_left (fun z => by simp [q_ln] at z)).symm
        subst hn
        unfold q_cv at hcv
        dsimp only at hcv
        split at hcv
        · next cn hrt =>
          cases hcv
          unfold q_do at ha
          dsimp only at ha
          split at ha
          · next x =>
            cases ha
            cases h
            intro H locs cells slots ls hA hc hs
            dsimp only at hc hs hA
            refine W.widen (k := mc) (n := ms) (by omega) (by omega) ?_
            exact W.aret C.1 C.2.1 (C.2.2.1.trans hrt) (Or.inl ⟨_, rfl⟩) (Or.inr ⟨_, rfl⟩) (q_ret_Q hKK hA rfl) hA.2.2.2.1.2.2 hdec C.2.2.2.2.2.2.1
          · cases ha
        · cases hcv
      case return_ =>
        have hn : n = 1 := (hln.resolve_left (fun z => by simp [q_ln] at z)).symm
        subst hn
        unfold q_cv at hcv
        dsimp only at hcv
        split at hcv
        · next hrt =>
          cases hcv
          unfold q_do at ha
          dsimp only at ha
          split at ha
          · cases ha
            cases h
            intro H locs cells slots ls hA hc hs
            dsimp only at hc hs hA
            refine W.widen (k := mc) (n := ms) (by omega) (by omega) ?_
            exact W.vret C.1 C.2.1 (C.2.2.1.trans hrt) (q_ret_Q hKK hA rfl) hA.2.2.2.1.2.2 hdec C.2.2.2.2.2.2.1
          · cases ha
        · cases hcv
      case invokevirtual i =>
        have hn : n = 3 := (hln.resolve_left (fun z => by simp [q_ln] at z)).symm
        subst hn
        unfold q_cv at hcv
        dsimp only at hcv
        split at hcv
        · next mj x hv =>
          split at hcv
          · next hmj =>
            obtain ⟨hst, hm⟩ := hmj
            cases hcv
            unfold q_do at ha
            dsimp only at ha
            obtain ⟨As, rest, b, sz, e1, e2, e3, e4, e5, e6⟩ := q_callV_spec ha
            subst e6
            obtain ⟨w1, w2, w3, -, -⟩ := q_mchk_spec hm
            obtain ⟨hp1, hp2, hp3, hp4, hp5, hp6⟩ := q_mch2_spec (show mj < 172 by omega)
            have h9 : q_rc mj < 9 := (q_rcLt mj hm).resolve_left (by omega)
            rw [if_neg (by omega)] at hp6
            have hlink := hts _ (q_wat_mem (List.all_eq_true.mp q_mk_all _ (q_fnd_mem hv)))
            have hyy : q_yy mj = q_y mj := by unfold q_yy; rw [if_neg (by omega), if_neg (by omega), if_neg (by omega), if_neg (by omega)]
            simp only [hyy] at hlink
            refine q_invoke ih hmc hms C h0 ha0 hm (by rw [List.length_cons, e2]; exact hp6) (q_one_ref e5) rfl ?_
            intro H locs cells slots ls mc1 ms1 rm v M1 hA hM hrc hrs hR hf hpre
            have hlt : b < 1000 := Nat.lt_of_lt_of_le (List.getElem?_eq_some_iff.mp e3).1 hA.2.2.1
            have he := q_wl_at (G := G) e3
            rw [q_ce_obj h9] at he
            have eA : (Value.ref b :: As).map (q_rv G) = .ref (qgB G + b) :: As.map (q_rv G) := by
              rw [List.map_cons]
              show Value.ref (q_ad G b) :: _ = _
              rw [q_ad_lt hlt]
            have eS : st.map (q_rv G) = (As.map (q_rv G)).reverse ++ .ref (qgB G + b) :: rest.map (q_rv G) := by
              rw [e1, List.map_append, List.map_reverse, List.map_cons]
              show _ ++ Value.ref (q_ad G b) :: _ = _
              rw [q_ad_lt hlt]
            rw [eA] at hpre ⊢
            have hrecv := va_recv hKK.1 hA.1 (q_cls_at h9) he
            have hcw : CallW R s args (q_own mi) (q_y mj).cls i (q_y mj) (q_by mj) (q_mx mj) (q_rt mj) (Cond.code (q_y mj) (q_by mj) (q_mx mj) (q_rt mj) :: q_tbl) rm mc1 ms1 (q_na mj) := ⟨callB_of (q_na mj) hts (q_good hm) rfl hrc hrs (hts _ w2) hlink hp2 hR, hts _ (w3 hst).1, hts _ (w3 hst).2⟩
            exact va_runV (As := As.map (q_rv G)) (rest := rest.map (q_rv G)) (b := qgB G + b) ⟨C.1, C.2.1, C.2.2.2.1, C.2.2.2.2.1, hts⟩ hM hcw ⟨hpre.1, by rw [← hp4]; exact hrecv, hpre.2⟩ rfl (by rw [List.length_map]; exact e2) hA.2.2.2.2.1 eS (by show 2 * 0 + ((rest.map (q_rv G)).map fun v => v.category).sum ≤ 8; rw [q_sum_eq]; omega) hdec hf
          · cases hcv
        · cases hcv
      case invokespecial i =>
        have hn : n = 3 := (hln.resolve_left (fun z => by simp [q_ln] at z)).symm
        subst hn
        unfold q_cv at hcv
        dsimp only at hcv
        split at hcv
        · next mj x hv =>
          split at hcv
          · next hmj =>
            cases hcv
            rcases hmj with rfl | ⟨hst, hm⟩
            · exact plain (qi_objInit hv C hdec rfl ha)
            unfold q_do at ha
            dsimp only at ha
            have hne : Nat.beq mj 901 = false := by
              cases hz : Nat.beq mj 901 with
              | false => rfl
              | true => have := Nat.eq_of_beq_eq_true hz; omega
            rw [hne] at ha
            dsimp only [cond_false] at ha
            have hlink := hts _ (q_wat_mem (List.all_eq_true.mp q_mk_all _ (q_fnd_mem hv)))
            have hyy : q_yy mj = q_y mj := by unfold q_yy; rw [if_neg (by omega), if_neg (by omega), if_neg (by omega), if_neg (by omega)]
            simp only [hyy] at hlink
            obtain ⟨As, rest, b, sz, e1, e2, e3, e4, e5, e6⟩ := q_callV_spec ha
            subst e6
            obtain ⟨w1, w2, -, -, w3⟩ := q_mchk_spec hm
            obtain ⟨w4, w5, w6⟩ := w3 hst
            obtain ⟨hp1, hp2, hp3, hp4, hp5, hp6⟩ := q_mch2_spec (show mj < 172 by omega)
            have h9 : q_rc mj < 9 := (q_rcLt mj hm).resolve_left (by omega)
            rw [if_neg (by omega)] at hp6
            refine q_invoke ih hmc hms C h0 ha0 hm (by rw [List.length_cons, e2]; exact hp6) (q_one_ref e5) rfl ?_
            intro H locs cells slots ls mc1 ms1 rm v M1 hA hM hrc hrs hR hf hpre
            have hlt : b < 1000 := Nat.lt_of_lt_of_le (List.getElem?_eq_some_iff.mp e3).1 hA.2.2.1
            have eA : (Value.ref b :: As).map (q_rv G) = .ref (qgB G + b) :: As.map (q_rv G) := by
              rw [List.map_cons]
              show Value.ref (q_ad G b) :: _ = _
              rw [q_ad_lt hlt]
            have eS : st.map (q_rv G) = (As.map (q_rv G)).reverse ++ .ref (qgB G + b) :: rest.map (q_rv G) := by
              rw [e1, List.map_append, List.map_reverse, List.map_cons]
              show _ ++ Value.ref (q_ad G b) :: _ = _
              rw [q_ad_lt hlt]
            rw [eA] at hpre ⊢
            rw [w6] at hM
            have hgood := q_good hm
            rw [w6] at hgood
            exact va_runI (As := As.map (q_rv G)) (rest := rest.map (q_rv G)) (b := qgB G + b) ⟨C.1, C.2.1, C.2.2.2.1, C.2.2.2.2.1, hts⟩ hM (cwI (q_na mj) hts hgood rfl hrc hrs (hts _ w2) hlink (hts _ w4) w5 hp2 hR) hpre rfl (by rw [List.length_map]; exact e2) hA.2.2.2.2.1 eS (by show 2 * 0 + ((rest.map (q_rv G)).map fun v => v.category).sum ≤ 8; rw [q_sum_eq]; omega) hdec hf
          · cases hcv
        · split at hcv
          · next mj x hv =>
            split at hcv
            · next hmj =>
              obtain ⟨hst, hm⟩ := hmj
              cases hcv
              unfold q_do at ha
              dsimp only at ha
              have hne : Nat.beq mj 901 = false := by
                cases hz : Nat.beq mj 901 with
                | false => rfl
                | true => have := Nat.eq_of_beq_eq_true hz; omega
              rw [hne] at ha
              dsimp only [cond_false] at ha
              have hlink := hKK.2.2.2.1 _ (q_fnd_mem hv)
              obtain ⟨As, rest, b, sz, e1, e2, e3, e4, e5, e6⟩ := q_callV_spec ha
              subst e6
              obtain ⟨w1, w2, -, -, w3⟩ := q_mchk_spec hm
              obtain ⟨w4, w5, w6⟩ := w3 hst
              obtain ⟨hp1, hp2, hp3, hp4, hp5, hp6⟩ := q_mch2_spec (show mj < 172 by omega)
              have h9 : q_rc mj < 9 := (q_rcLt mj hm).resolve_left (by omega)
              rw [if_neg (by omega)] at hp6
              refine q_invoke ih hmc hms C h0 ha0 hm (by rw [List.length_cons, e2]; exact hp6) (q_one_ref e5) rfl ?_
              intro H locs cells slots ls mc1 ms1 rm v M1 hA hM hrc hrs hR hf hpre
              have hlt : b < 1000 := Nat.lt_of_lt_of_le (List.getElem?_eq_some_iff.mp e3).1 hA.2.2.1
              have eA : (Value.ref b :: As).map (q_rv G) = .ref (qgB G + b) :: As.map (q_rv G) := by
                rw [List.map_cons]
                show Value.ref (q_ad G b) :: _ = _
                rw [q_ad_lt hlt]
              have eS : st.map (q_rv G) = (As.map (q_rv G)).reverse ++ .ref (qgB G + b) :: rest.map (q_rv G) := by
                rw [e1, List.map_append, List.map_reverse, List.map_cons]
                show _ ++ Value.ref (q_ad G b) :: _ = _
                rw [q_ad_lt hlt]
              rw [eA] at hpre ⊢
              rw [w6] at hM
              have hgood := q_good hm
              rw [w6] at hgood
              exact va_runIN (As := As.map (q_rv G)) (rest := rest.map (q_rv G)) (b := qgB G + b) ⟨C.1, C.2.1, C.2.2.2.1, C.2.2.2.2.1, hts⟩ hM ⟨va_cnB (q_na mj) hts hgood rfl hrc hrs hlink (hts _ w2) hp2 hR, w5, hts _ w4⟩ hpre rfl (by rw [List.length_map]; exact e2) hA.2.2.2.2.1 eS (by show 2 * 0 + ((rest.map (q_rv G)).map fun v => v.category).sum ≤ 8; rw [q_sum_eq]; omega) hdec hf
            · cases hcv
          · cases hcv
      case invokestatic i =>
        have hn : n = 3 := (hln.resolve_left (fun z => by simp [q_ln] at z)).symm
        subst hn
        unfold q_cv at hcv
        dsimp only at hcv
        split at hcv
        · next mj x hv =>
          split at hcv
          · next hmj =>
            cases hcv
            rcases hmj with rfl | rfl | rfl | ⟨hst, hm⟩
            · unfold q_do at ha
              dsimp only at ha
              rw [show Nat.beq 900 900 = true from rfl] at ha
              exact plain (qi_copy hv C hdec rfl ha)
            · exact plain (qi_min hv hmc hms C hdec rfl ha)
            · exact plain (qi_max hv hmc hms C hdec rfl ha)
            unfold q_do at ha
            dsimp only at ha
            have hne : Nat.beq mj 900 = false := by
              cases hz : Nat.beq mj 900 with
              | false => rfl
              | true => have := Nat.eq_of_beq_eq_true hz; omega
            have hne2 : Nat.beq mj 902 = false := by
              cases hz : Nat.beq mj 902 with
              | false => rfl
              | true => have := Nat.eq_of_beq_eq_true hz; omega
            have hne3 : Nat.beq mj 903 = false := by
              cases hz : Nat.beq mj 903 with
              | false => rfl
              | true => have := Nat.eq_of_beq_eq_true hz; omega
            rw [hne, hne2, hne3] at ha
            dsimp only [cond_false] at ha
            have hlink := hts _ (q_wat_mem (List.all_eq_true.mp q_mk_all _ (q_fnd_mem hv)))
            have hyy : q_yy mj = q_y mj := by unfold q_yy; rw [if_neg (by omega), if_neg (by omega), if_neg (by omega), if_neg (by omega)]
            simp only [hyy] at hlink
            obtain ⟨As, rest, e1, e2, e4, e5, e6⟩ := q_callS_spec ha
            subst e6
            obtain ⟨w1, w2, -, w3, -⟩ := q_mchk_spec hm
            obtain ⟨hp1, hp2, hp3, hp4, hp5, hp6⟩ := q_mch2_spec (show mj < 172 by omega)
            rw [if_pos hst] at hp6
            refine q_invoke ih hmc hms C h0 ha0 hm (by omega) e5 rfl ?_
            intro H locs cells slots ls mc1 ms1 rm v M1 hA hM hrc hrs hR hf hpre
            have eS : st.map (q_rv G) = (As.map (q_rv G)).reverse ++ rest.map (q_rv G) := by
              rw [e1, List.map_append, List.map_reverse]
            exact va_runS (As := As.map (q_rv G)) (rest := rest.map (q_rv G)) ⟨C.1, C.2.1, C.2.2.2.1, C.2.2.2.2.1, hts⟩ hM ⟨callB_of (q_na mj) hts (q_good hm) rfl hrc hrs (hts _ w2) hlink hp2 hR, hts _ (w3 hst)⟩ hpre rfl (by rw [List.length_map]; exact e2) hA.2.2.2.2.1 eS (by show 2 * 0 + ((rest.map (q_rv G)).map fun v => v.category).sum ≤ 8; rw [q_sum_eq]; omega) hdec hf
          · cases hcv
        · cases hcv
      all_goals (exact absurd hcv (by simp [q_cv]))
    · cases ha
theorem q_sound (G : qG) (l : Launch) : ∀ n, q_PW G l n := by
  intro n
  induction n with
  | zero =>
    intro d mi S r M' h
    simp [q_ex] at h
  | succ n ih => exact q_step ih
