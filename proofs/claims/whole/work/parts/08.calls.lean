/-! copies, calls, ends: the small machine's answers are the machine's -/
theorem q_cd {α : Type} {b : Bool} {x : Option α} {y : α} (h : cond b x none = some y) : b = true ∧ x = some y := by
  cases b with
  | false => cases h
  | true => exact ⟨rfl, h⟩
theorem q_nx_eq {pc : Nat} {L : List (Option Value)} {st : List Value} {M : qM} {S' : qS} (h : q_nx pc L st M = some (.inl S')) : S'.2.2.2 = M := by cases h; rfl
theorem q_get_grow {pc : Nat} {L : List (Option Value)} {M : qM} {e k : Nat} {r : List Value} {S' : qS} (h : q_get pc L M e k r = some (.inl S')) : S'.2.2.2.1 = M.1 := by
  unfold q_get at h
  split at h
  · rw [q_nx_eq (q_cd h).2]
  · cases h
theorem q_set_grow {pc : Nat} {L : List (Option Value)} {M : qM} {e k : Nat} {v : Value} {r : List Value} {S' : qS} (h : q_set pc L M e k v r = some (.inl S')) : S'.2.2.2.1 = M.1 := by
  unfold q_set at h
  split at h
  · have h := (q_cd h).2
    split at h
    · split at h
      · rw [q_nx_eq h, q_put_sh]
      · rw [q_nx_eq (q_cd h).2, q_put_sh]
      · cases h
    · split at h
      · rw [q_nx_eq h]; rfl
      · cases h
    · split at h
      · rw [q_nx_eq h]; rfl
      · cases h
    · cases h
  · cases h
theorem q_ald_grow {xt : Nat → Nat × (Nat → Int32)} {pc : Nat} {L : List (Option Value)} {M : qM} {tag k : Nat} {i : Int32} {r : List Value} {S' : qS} (h : q_ald xt pc L M tag k i r = some (.inl S')) : S'.2.2.2.1 = M.1 := by
  unfold q_ald at h
  cases hb : Nat.blt k 1000 with
  | true =>
    rw [hb] at h
    dsimp only [cond_true] at h
    split at h
    · rw [q_nx_eq (q_cd h).2]
    · cases h
  | false =>
    rw [hb] at h
    rw [q_nx_eq (q_cd h).2]
theorem q_ast_grow {pc : Nat} {L : List (Option Value)} {M : qM} {tag k : Nat} {i x : Int32} {r : List Value} {S' : qS} (h : q_ast pc L M tag k i x r = some (.inl S')) : S'.2.2.2.1 = M.1 := by
  unfold q_ast at h
  split at h
  · rw [q_nx_eq (q_cd h).2, q_put_sh]
  · cases h
theorem q_copy_grow {pc : Nat} {L : List (Option Value)} {st : List Value} {M : qM} {S' : qS} (h : q_copy pc L st M = some (.inl S')) : S'.2.2.2.1 = M.1 := by
  unfold q_copy at h
  split at h
  · split at h
    · rw [q_nx_eq (q_cd h).2, q_put_sh]
    · cases h
  · cases h
theorem q_callV_inl {pc : Nat} {L : List (Option Value)} {st : List Value} {M : qM} {mj : Nat} {S' : qS} (h : q_callV pc L st M mj = some (.inl S')) : False := by
  unfold q_callV at h
  split at h
  · split at h
    · have := (q_cd h).2; cases this
    · cases h
  · cases h
theorem q_callS_inl {pc : Nat} {L : List (Option Value)} {st : List Value} {M : qM} {mj : Nat} {S' : qS} (h : q_callS pc L st M mj = some (.inl S')) : False := by
  unfold q_callS at h
  split at h
  · have := (q_cd h).2; cases this
  · cases h
theorem q_e0 {A B : List (Nat × Nat)} (h : A = B) : ∃ ex, A = B ++ ex := ⟨[], by rw [h, List.append_nil]⟩
theorem q_do_grow {xt : Nat → Nat × (Nat → Int32)} {pc n : Nat} {L : List (Option Value)} {st : List Value} {M : qM} {i : Instr} {S' : qS} (h : q_do xt pc L st M i n = some (.inl S')) : ∃ ex, S'.2.2.2.1 = M.1 ++ ex := by
  unfold q_do at h
  split at h
  all_goals (try (cases h; done))
  all_goals (try (exact q_e0 (by rw [q_nx_eq h])))
  all_goals (try (cases hb : Nat.beq _ 901 <;> rw [hb] at h <;> dsimp only [cond_true, cond_false] at h))
  all_goals (try (cases hb : Nat.beq _ 900 <;> rw [hb] at h <;> dsimp only [cond_true, cond_false] at h))
  all_goals (try (cases hb2 : Nat.beq _ 902 <;> rw [hb2] at h <;> dsimp only [cond_true, cond_false] at h))
  all_goals (try (cases hb3 : Nat.beq _ 903 <;> rw [hb3] at h <;> dsimp only [cond_true, cond_false] at h))
  all_goals (try (exact absurd (q_callV_inl h) id))
  all_goals (try (exact absurd (q_callS_inl h) id))
  all_goals (try (exact q_e0 (q_copy_grow h)))
  all_goals (try (rw [q_nx_eq (q_cd h).2]; exact ⟨_, q_new_sh _ _⟩))
  all_goals (split at h)
  all_goals (try (cases h; done))
  all_goals (try (exact q_e0 (by rw [q_nx_eq h])))
  all_goals (try (exact q_e0 (q_get_grow h)))
  all_goals (try (exact q_e0 (q_set_grow h)))
  all_goals (try (exact q_e0 (q_ald_grow h)))
  all_goals (try (exact q_e0 (q_ast_grow h)))
  all_goals (try (exact q_e0 (by rw [q_nx_eq (q_cd h).2])))
  all_goals (try (exact q_e0 (q_ast_grow (q_cd h).2)))
  all_goals (try (have h9 := (q_cd h).2; cases h9; done))
  all_goals (try (cases hb : Nat.blt _ 1000 <;> rw [hb] at h <;> dsimp only [cond_true, cond_false] at h))
  all_goals (try (exact q_e0 (by rw [q_nx_eq (q_cd h).2])))
  all_goals (split at h)
  all_goals (try (cases h; done))
  all_goals (first | (have h8 := q_nx_eq h; rw [h8]) | (have h8 := q_nx_eq (q_cd h).2; rw [h8]))
  all_goals (first | exact q_e0 rfl | exact ⟨_, q_new_sh _ _⟩)
theorem q_ex_grow {xt : Nat → Nat × (Nat → Int32)} : ∀ (n d mi : Nat) (S : qS) (r : Option Value) (M' : qM), q_ex xt n d mi S = some (r, M') → ∃ ex, M'.1 = S.2.2.2.1 ++ ex := by
  intro n
  induction n with
  | zero => intro d mi S r M' h; simp [q_ex] at h
  | succ n ih =>
    intro d mi S r M' h
    rw [q_ex] at h
    cases ha : q_act xt mi S with
    | none => rw [ha] at h; cases h
    | some a =>
      rw [ha] at h
      rcases a with S' | v | ⟨mj, As, S'⟩
      · obtain ⟨e2, h2⟩ := ih d mi S' r M' h
        unfold q_act at ha
        split at ha
        · obtain ⟨e1, h1⟩ := q_do_grow ha
          exact ⟨e1 ++ e2, by rw [h2, h1, List.append_assoc]⟩
        · cases ha
      · cases h
        exact ⟨[], (List.append_nil _).symm⟩
      · cases d with
        | zero => cases h
        | succ d' =>
          dsimp only at h
          cases hc : q_ex xt n d' mj (0, q_ent mj As, [], S.2.2.2) with
          | none => rw [hc] at h; cases h
          | some w =>
            obtain ⟨v, M1⟩ := w
            rw [hc] at h
            obtain ⟨e1, h1⟩ := ih d' mj _ v M1 hc
            obtain ⟨e2, h2⟩ := ih (d' + 1) mi _ r M' h
            exact ⟨e1 ++ e2, by rw [h2]; show M1.1 ++ e2 = _; rw [h1, List.append_assoc]⟩
theorem q_ex_le2 {xt : Nat → Nat × (Nat → Int32)} {n d mi : Nat} {S : qS} {r : Option Value} {M' : qM} (h : q_ex xt n d mi S = some (r, M')) : S.2.2.2.1.length ≤ M'.1.length ∧ q_sl S.2.2.2 ≤ q_sl M' := by
  obtain ⟨ex, he⟩ := q_ex_grow n d mi S r M' h
  constructor
  · rw [he, List.length_append]; omega
  · unfold q_sl
    rw [he, List.map_append, List.sum_append]
    omega
def q_PW (G : qG) (l : Launch) (n : Nat) : Prop := ∀ (d mi : Nat) (S : qS) (r : Option Value) (M' : qM), q_ex (qgT G) n d mi S = some (r, M') → ∀ (p : Program) (e : Env) (R : Room) (s : State) (m : MethodId) (args : Array Value) (below : List Frame) (meth : Method) (c : Code), q_Cx G p R s m args meth c mi d → ∀ (mc ms : Nat), mc ≤ R.cells → ms ≤ R.slots → q_TT G p l e R s m args below meth c mi mc ms M'.1.length (q_sl M') (MQ below (q_Qc G r M') args s mc ms (qgF G)) S
theorem q_mch2_spec {mi : Nat} (h : mi < 172) : plainName (q_y mi).cls = true ∧ ((q_y mi).cls ≠ "java/lang/invoke/MethodHandle" ∧ (q_y mi).cls ≠ "java/lang/invoke/VarHandle" ∧ (parseMethodDescriptor (q_y mi).desc).map (fun d => d.parameters.length) = some (q_na mi)) ∧ q_ml mi = q_mx mi ∧ q_own mi = (q_y mi).cls ∧ q_ml mi ≤ 45 ∧ q_na mi + (if q_st mi = 1 then 0 else 1) ≤ q_ml mi := by
  have h1 := q_mch2_all mi h
  unfold q_mch2 at h1
  simp only [Bool.and_eq_true, decide_eq_true_eq] at h1
  obtain ⟨a1, a2, a3, a4, a5, a6, a7, a8⟩ := h1
  exact ⟨a1, ⟨a2, a3, a4⟩, a5, a6, Nat.le_of_ble_eq_true a7, Nat.le_of_ble_eq_true a8⟩
theorem q_ent_at {mj i : Nat} {As : List Value} {v : Value} (h : (q_ent mj As)[i]? = some (some v)) : As[i]? = some v := by
  unfold q_ent at h
  by_cases hi : i < As.length
  · rw [List.getElem?_append_left (by rw [List.length_map]; exact hi), List.getElem?_map] at h
    cases ha : As[i]? with
    | none => rw [ha] at h; cases h
    | some w => rw [ha] at h; cases h; rfl
  · rw [List.getElem?_append_right (by rw [List.length_map]; omega), List.getElem?_replicate] at h
    split at h <;> cases h
theorem q_met {G : qG} {l : Launch} {n : Nat} (ih : q_PW G l n) {d' mj : Nat} {As : List Value} {M M1 : qM} {v : Option Value} (hex : q_ex (qgT G) n d' mj (0, q_ent mj As, [], M) = some (v, M1)) (hm : mj < 172) (hlen : As.length ≤ q_ml mj) (hone : q_one As = true) :
    Met l (q_y mj) (Cond.code (q_y mj) (q_by mj) (q_mx mj) (q_rt mj) :: q_tbl) { frames := d' + 2, cells := M1.1.length - M.1.length, slots := q_sl M1 - q_sl M, locals := 64 * (d' + 2) } (q_Pc G As M) (q_Qc G v M1) (M1.1.length - M.1.length) (q_sl M1 - q_sl M) (qgF G) := by
  obtain ⟨hp1, hp2, hp3, hp4, hp5, -⟩ := q_mch2_spec hm
  have hg := q_ex_le2 hex
  refine Met.ofW (cc := q_by mj) (maxL := q_mx mj) (ret := q_rt mj) hp1 rfl ?_
  intro p e s m args below meth c s₁ B hml hv
  obtain ⟨rfl, hP, hsz, hle, hK⟩ := hv
  have hts := atoms_spec (ws := Cond.code (q_y mj) (q_by mj) (q_mx mj) (q_rt mj) :: q_tbl) B.pre
  have hl := lv_entry (As.map (q_rv G)) (n := q_mx mj) (by rw [q_sl_len G As hone, ← hp3]; exact hlen)
  rw [lg_entry_eq]
  generalize (lg_sl (As.map (q_rv G)) ++ List.replicate (q_mx mj - (lg_sl (As.map (q_rv G))).length) Slot.unset).toArray = ls at hl ⊢
  refine ih d' mj (0, q_ent mj As, [], M) v M1 hex p e _ s m _ below meth c ⟨B.exec, B.bytes, B.returns, hml.trans hp3.symm, ?_, fun w hw => hts w (List.mem_cons_of_mem _ hw), B.notSynchronized, fun hz => (name_of_methodNamed B.named B.method).1.trans hz, hK, Nat.le_refl _, Nat.le_refl _⟩ _ _ (Nat.le_refl _) (Nat.le_refl _) s.heap [] 0 0 ls ⟨hP, hsz, hle, va_S.rf, ?_⟩ ?_ ?_
  · rw [hp4]; exact findClass_of_methodNamed B.named
  · refine ⟨hl.1.trans hp3.symm, hl.2.1, ?_, fun i w h => ?_, fun _ i w h => ?_⟩
    · show (q_ent mj As).length = _
      unfold q_ent
      rw [List.length_append, List.length_map, List.length_replicate]
      omega
    · have := q_args_mem G As 0 i w hone (q_ent_at h)
      rw [Nat.zero_add] at this
      exact hl.2.2 _ this
    · have h1 := List.all_eq_true.mp hone w (List.mem_of_getElem? (q_ent_at h))
      exact Nat.eq_of_beq_eq_true h1
  · show 0 + M1.1.length ≤ (M1.1.length - M.1.length) + M.1.length
    have := hg.1
    dsimp only at this
    omega
  · show 0 + q_sl M1 ≤ (q_sl M1 - q_sl M) + q_sl M
    have := hg.2
    dsimp only at this
    omega
section QK
variable {G : qG} {p : Program} {l : Launch} {e : Env} {R : Room} {s : State} {m : MethodId} {args : Array Value} {below : List Frame} {meth : Method} {c : Code} {mi d mc ms nM sM : Nat} {Q : State → Prop} {pc n : Nat} {L : List (Option Value)} {st : List Value} {M : qM} {a : qR}
theorem q_nn {z : Int32} (hz : 0 ≤ z) : z.toInt = (z.toNatClampNeg : Int) := by
  have hz0 : (0 : Int) ≤ z.toInt := by simpa using Int32.le_iff_toInt_le.mp hz
  show z.toInt = ((z.toInt.toNat : Nat) : Int)
  omega
theorem qi_copy {i x : Nat} (hv : q_fnd q_mk (q_rc mi) i = some (900, x)) (C : q_Cx G p R s m args meth c mi d) (hd : decode (q_by mi) pc = .ok (.invokestatic i, n)) (hn : n = 3) (ha : q_copy (pc + n) L st M = some a) : q_Gd G p l e R s m args below meth c mi mc ms nM sM Q a (pc, L, st, M) := by
  subst hn
  unfold q_copy at ha
  split at ha
  · next nn dp k1 sp k0 r =>
    split at ha
    · next n0 n1 h0 h1 =>
      obtain ⟨hb, ha⟩ := q_cd ha
      cases ha
      simp only [Bool.and_eq_true, decide_eq_true_eq] at hb
      obtain ⟨b1, b2, b3, b4, b5, b6⟩ := hb
      have b4 := Nat.le_of_ble_eq_true b4
      have b5 := Nat.le_of_ble_eq_true b5
      have b6 := Nat.le_of_ble_eq_true b6
      have g0 := q_len0_some h0
      have g1 := q_len0_some h1
      refine ⟨_, rfl, fun _ _ K H locs cells slots ls hA hc hs => ?_⟩
      have hl0 : k0 < 1000 := Nat.lt_of_lt_of_le (List.getElem?_eq_some_iff.mp g0).1 hA.2.2.1
      have hl1 : k1 < 1000 := Nat.lt_of_lt_of_le (List.getElem?_eq_some_iff.mp g1).1 hA.2.2.1
      have he0 := q_wl_at (G := G) g0
      rw [q_ce_arr (by decide)] at he0
      have he1 := q_wl_at (G := G) g1
      rw [q_ce_arr (by decide)] at he1
      have hc0 : H[qgB G + k0]? = some (vp_cell (qgA G 100) (n0, .inl (q_row M k0))) := hA.1 k0 _ he0
      have hc1 : H[qgB G + k1]? = some (vp_cell (qgA G 100) (n1, .inl (q_row M k1))) := hA.1 k1 _ he1
      have hK := C.2.2.2.2.2.2.2.2.1.1
      have hts := C.2.2.2.2.2.1
      obtain ⟨-, kd, hkd, cm, hkind⟩ := (hK.2 0 _ rfl).1 n0 (fun j => .int (q_row M k0 j))
      have hlink := hts _ (q_wat_mem (List.all_eq_true.mp q_mk_all _ (q_fnd_mem hv)))
      have eS : (Value.int nn :: Value.int dp :: Value.ref k1 :: Value.int sp :: Value.ref k0 :: r).map (q_rv G) = .int nn :: .int dp :: .ref (qgB G + k1) :: .int sp :: .ref (qgB G + k0) :: r.map (q_rv G) := by
        simp only [List.map_cons]
        show Value.int nn :: Value.int dp :: Value.ref (q_ad G k1) :: Value.int sp :: Value.ref (q_ad G k0) :: _ = _
        rw [q_ad_lt hl0, q_ad_lt hl1]
      show W p l e R s m args below meth c H locs cells slots Q (F0 m pc ls ((Value.int nn :: Value.int dp :: Value.ref k1 :: Value.int sp :: Value.ref k0 :: r).map (q_rv G)))
      rw [eS]
      intro T hT X
      have hsum := q_sum_eq G r
      obtain ⟨vm', X', step⟩ := X.arraycopy C.1 C.2.2.2.2.1 (index := i) hlink (hts _ (q_wat_mem q_cp_all.1)) (hts _ (q_wat_mem q_cp_all.2.1)) (hts _ (q_wat_mem q_cp_all.2.2)) (src := qgB G + k0) (dst := qgB G + k1) (cs := vp_cell (qgA G 100) (n0, .inl (q_row M k0))) (cd := vp_cell (qgA G 100) (n1, .inl (q_row M k1))) (srcPos := sp) (destPos := dp) (n := nn) (by rw [hT]; exact hc0) (by rw [hT]; exact hc1)
        (fun _ h => by cases h) (fun _ h => by cases h) (fun h => by cases h) (fun h => by cases h) hkd hkd hkind hkind (by simp [refKind]) (Int32.not_lt.mpr b1) (Int32.not_lt.mpr b2) (Int32.not_lt.mpr b3)
        (by rw [q_nn b1, q_nn b3]; show ¬ _ > ((arrV _ n0 (fun j => .int (q_row M k0 j))).slots.size : Int); rw [arrV_size]; omega)
        (by rw [q_nn b2, q_nn b3]; show ¬ _ > ((arrV _ n1 (fun j => .int (q_row M k1 j))).slots.size : Int); rw [arrV_size]; omega)
        (fun vm₁ _ j hj => by
          have e9 : (vp_cell (qgA G 100) (n0, .inl (q_row M k0))).slots.getD (sp.toNatClampNeg + j) .null = .int (q_row M k0 (sp.toNatClampNeg + j)) := by
            show (arrV _ n0 (fun j => .int (q_row M k0 j))).slots.getD _ _ = _
            rw [Array.getD_eq_getD_getElem?, arrV_read _ _ (by omega)]
            rfl
          rw [e9]
          exact ⟨rfl, trivial⟩)
        (g := F0 m pc ls (.int nn :: .int dp :: .ref (qgB G + k1) :: .int sp :: .ref (qgB G + k0) :: r.map (q_rv G))) rfl (by rw [C.2.2.2.1]; exact hA.2.2.2.2.1) (rest := r.map (q_rv G)) rfl (by rw [C.2.1]; exact hd) (by have := C.2.2.2.2.2.2.2.2.2.1; omega) (by show 2 * 0 + _ + (nativeFrameWords "java/lang/System" "arraycopy" 5 + 11) ≤ _; rw [hsum]; have := C.2.2.2.2.2.2.2.2.2.2; have h77 : nativeFrameWords "java/lang/System" "arraycopy" 5 = 7 := (by decide +kernel); omega)
      have e1 : copied (vp_cell (qgA G 100) (n0, .inl (q_row M k0))) (vp_cell (qgA G 100) (n1, .inl (q_row M k1))) sp dp nn = vp_cell (qgA G 100) (n1, .inl (va_cpy (q_row M k0) (q_row M k1) sp.toNatClampNeg dp.toNatClampNeg nn.toNatClampNeg)) := va_copied (fun z => .int z) _ _ _ _ b4
      rw [e1] at X' step
      have hl : qgB G + k1 < H.size := (Array.getElem?_eq_some_iff.mp hc1).1
      have oq : ∀ q : Nat, q ≠ qgB G + k1 → (H.setIfInBounds (qgB G + k1) (vp_cell (qgA G 100) (n1, .inl (va_cpy (q_row M k0) (q_row M k1) sp.toNatClampNeg dp.toNatClampNeg nn.toNatClampNeg))))[q]? = H[q]? := fun q hq => by simp [Array.getElem?_setIfInBounds, Ne.symm hq]
      have hheap : ((T.setVm vm').setCell (qgB G + k1) (vp_cell (qgA G 100) (n1, .inl (va_cpy (q_row M k0) (q_row M k1) sp.toNatClampNeg dp.toNatClampNeg nn.toNatClampNeg)))).heap = H.setIfInBounds (qgB G + k1) (vp_cell (qgA G 100) (n1, .inl (va_cpy (q_row M k0) (q_row M k1) sp.toNatClampNeg dp.toNatClampNeg nn.toNatClampNeg))) := by rw [← hT]; rfl
      obtain ⟨t, a1, b1'⟩ := K _ _ cells slots ls ⟨q_P_set hA.1 g1 (q_put_sh _ _ _) oq (fun k' sh' h => q_ce_put h) (by
          rw [q_ce_arr (by decide), q_row_put, if_pos rfl]
          show (H.setIfInBounds (qgB G + k1) _)[qgB G + k1]? = some _
          simp [Array.getElem?_setIfInBounds, hl]), by rw [q_put_sh, Array.size_setIfInBounds]; exact hA.2.1, by rw [q_put_sh]; exact hA.2.2.1, ⟨by rw [Array.size_setIfInBounds]; exact hA.2.2.2.1.1, fun q g3 g4 => by
          rw [oq q (fun e9 => g4 (by rw [e9]; exact Nat.le_add_right _ _))]
          exact hA.2.2.2.1.2.1 q g3 g4, fun q hq => by
          rcases List.mem_append.mp hq with h | h
          · exact hA.2.2.2.1.2.2 q h
          · obtain ⟨z, -, hz⟩ := List.mem_map.mp h
            rw [← hz]
            exact Nat.le_add_right _ _⟩, hA.2.2.2.2⟩ (by show _ ≤ mc + (q_put M k1 _).1.length; rw [q_put_sh]; exact hc) (by show _ ≤ ms + q_sl (q_put M k1 _); rw [q_sl_eq (q_put_sh _ _ _)]; exact hs) _ hheap X'
      exact ⟨t, step t a1, b1'⟩
    · cases ha
  · cases ha
theorem qi_min {i x : Nat} (hv : q_fnd q_mk (q_rc mi) i = some (902, x)) (hmc : mc ≤ R.cells) (hms : ms ≤ R.slots) (C : q_Cx G p R s m args meth c mi d) (hd : decode (q_by mi) pc = .ok (.invokestatic i, n)) (hn : n = 3) (ha : q_do (qgT G) pc L st M (.invokestatic 902) n = some a) : q_Gd G p l e R s m args below meth c mi mc ms nM sM Q a (pc, L, st, M) := by
  subst hn
  unfold q_do at ha
  dsimp only at ha
  rw [show Nat.beq 902 900 = false from rfl, show Nat.beq 902 902 = true from rfl] at ha
  dsimp only [cond_true, cond_false] at ha
  split at ha
  · next y x r =>
    obtain ⟨hb, ha⟩ := q_cd ha
    cases ha
    have hb := Nat.le_of_ble_eq_true hb
    refine ⟨_, rfl, fun h1 h2 K H locs cells slots ls hA hc hs => ?_⟩
    have K := K H locs cells slots ls hA hc hs
    have hts := C.2.2.2.2.2.1
    have hlink := hts _ (q_wat_mem (List.all_eq_true.mp q_mk_all _ (q_fnd_mem hv)))
    have hsum := q_sum_eq G r
    have hf := C.2.2.2.2.2.2.2.2.2.1
    have hlo := C.2.2.2.2.2.2.2.2.2.2
    dsimp only at h1 h2 hc hs
    exact va_mmin C.1 C.2.1 (by rw [C.2.2.2.1]; exact hA.2.2.2.2.1.symm) C.2.2.2.2.1 hlink (hts _ (q_wat_mem q_mm_all.1)) (hts _ (q_wat_mem q_mm_all.2.1)) (hts _ (q_wat_mem q_mm_all.2.2)) (by omega) (by rw [hsum]; omega) (by omega) (by omega) hd K
  · cases ha
theorem qi_max {i x : Nat} (hv : q_fnd q_mk (q_rc mi) i = some (903, x)) (hmc : mc ≤ R.cells) (hms : ms ≤ R.slots) (C : q_Cx G p R s m args meth c mi d) (hd : decode (q_by mi) pc = .ok (.invokestatic i, n)) (hn : n = 3) (ha : q_do (qgT G) pc L st M (.invokestatic 903) n = some a) : q_Gd G p l e R s m args below meth c mi mc ms nM sM Q a (pc, L, st, M) := by
  subst hn
  unfold q_do at ha
  dsimp only at ha
  rw [show Nat.beq 903 900 = false from rfl, show Nat.beq 903 902 = false from rfl, show Nat.beq 903 903 = true from rfl] at ha
  dsimp only [cond_true, cond_false] at ha
  split at ha
  · next y x r =>
    obtain ⟨hb, ha⟩ := q_cd ha
    cases ha
    have hb := Nat.le_of_ble_eq_true hb
    refine ⟨_, rfl, fun h1 h2 K H locs cells slots ls hA hc hs => ?_⟩
    have K := K H locs cells slots ls hA hc hs
    have hts := C.2.2.2.2.2.1
    have hlink := hts _ (q_wat_mem (List.all_eq_true.mp q_mk_all _ (q_fnd_mem hv)))
    have hsum := q_sum_eq G r
    have hf := C.2.2.2.2.2.2.2.2.2.1
    have hlo := C.2.2.2.2.2.2.2.2.2.2
    dsimp only at h1 h2 hc hs
    exact va_mmax C.1 C.2.1 (by rw [C.2.2.2.1]; exact hA.2.2.2.2.1.symm) C.2.2.2.2.1 hlink (hts _ (q_wat_mem q_mx_all.1)) (hts _ (q_wat_mem q_mx_all.2.1)) (hts _ (q_wat_mem q_mx_all.2.2)) (by omega) (by rw [hsum]; omega) (by omega) (by omega) hd K
  · cases ha
theorem qi_objInit {i x : Nat} (hv : q_fnd q_mk (q_rc mi) i = some (901, x)) (C : q_Cx G p R s m args meth c mi d) (hd : decode (q_by mi) pc = .ok (.invokespecial i, n)) (hn : n = 3) (ha : q_do (qgT G) pc L st M (.invokespecial 901) n = some a) : q_Gd G p l e R s m args below meth c mi mc ms nM sM Q a (pc, L, st, M) := by
  subst hn
  unfold q_do at ha
  dsimp only at ha
  rw [show Nat.beq 901 901 = true from rfl] at ha
  dsimp only [cond_true] at ha
  split at ha
  · next k r =>
    obtain ⟨hb, ha⟩ := q_cd ha
    cases ha
    have hb := Nat.le_of_ble_eq_true hb
    refine ⟨_, rfl, fun _ _ K H locs cells slots ls hA hc hs => ?_⟩
    have K := K H locs cells slots ls hA hc hs
    have hts := C.2.2.2.2.2.1
    have hlink := hts _ (q_wat_mem (List.all_eq_true.mp q_mk_all _ (q_fnd_mem hv)))
    have hsum := q_sum_eq G r
    have hf := C.2.2.2.2.2.2.2.2.2.1
    have hlo := C.2.2.2.2.2.2.2.2.2.2
    exact W.objInit C.1 C.2.1 C.2.2.2.2.1 hlink (hts _ (q_wat_mem q_oi_all.1)) (hts _ (q_wat_mem q_oi_all.2)) rfl (by rw [C.2.2.2.1]; exact hA.2.2.2.2.1) rfl hd (by omega) (by show 2 * 0 + ((r.map (q_rv G)).map fun v => v.category).sum + 12 ≤ _; rw [hsum]; omega) K
  · cases ha
/-- behind a call -/
theorem q_back {v : Option Value} {M1 : qM} {rest : List Value} {aa : Array Value} {H : Heap} {locs : List Loc} {cells slots mc1 ms1 : Nat} {ls : Array Slot} {st0 : List Value} (hr : va_Run p l e R s m args below meth c H locs cells slots mc1 ms1 (F0 m pc ls st0) (rest.map (q_rv G)) (q_Qc G v M1 aa) (qgF G)) (hgr : M.1.length ≤ M1.1.length) (hA : q_At G s mi L M H locs ls)
    (K : ∀ (H1 : Heap) (locs1 : List Loc), q_At G s mi L M1 H1 locs1 ls → W p l e R s m args below meth c H1 locs1 (cells + mc1) (slots + ms1) Q (F0 m (pc + 3) ls ((v.toList ++ rest).map (q_rv G)))) : W p l e R s m args below meth c H locs cells slots Q (F0 m pc ls st0) := by
  intro T hT X
  obtain ⟨w, st₀, t, T', LL, h0, X', hL, e1, e2, ⟨hq1, hq2, hq3, hq4, hq5⟩, stp⟩ := hr T hT X
  have hw : w = v.map (q_rv G) := Outcome.returned.inj hq1
  subst hw
  have hA1 : q_At G s mi L M1 T'.heap (locs ++ LL) ls := by
    refine ⟨by rw [e1]; exact hq2, by rw [e1]; exact hq3, hq4, ⟨?_, fun q g1 g2 => ?_, fun q hq => ?_⟩, hA.2.2.2.2⟩
    · have h1 := hA.2.2.2.1.1
      have h2 := hA.2.1
      have h3 : T'.heap.size = qgB G + M1.1.length := by rw [e1]; exact hq3
      omega
    · rw [e1, hq5 q (Nat.not_le.mp g2), h0]
      exact hA.2.2.2.1.2.1 q g1 g2
    · rcases List.mem_append.mp hq with h | h
      · exact hA.2.2.2.1.2.2 q h
      · exact hL q h
  obtain ⟨t2, a1, b1⟩ := K T'.heap (locs ++ LL) hA1 T' rfl X'
  refine ⟨t2, stp t2 ?_, b1⟩
  have eS : (v.toList ++ rest).map (q_rv G) = (v.map (q_rv G)).toList ++ rest.map (q_rv G) := by cases v <;> simp
  rw [eS] at a1
  exact a1
end QK
