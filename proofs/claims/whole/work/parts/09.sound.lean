/-! the step: whatever the small machine answers, the machine answers -/
section QL
variable {G : qG} {p : Program} {l : Launch} {e : Env} {R : Room} {s : State} {m : MethodId} {args : Array Value} {below : List Frame} {meth : Method} {c : Code} {mi d mc ms nM sM : Nat} {Q : State → Prop} {pc n : Nat} {L : List (Option Value)} {st : List Value} {M : qM} {a : qR}
theorem q_mchk_spec {mj : Nat} (h : mj < 171) : Cond.code (q_y mj) (q_by mj) (q_mx mj) (q_rt mj) ∈ q_tbl ∧ Cond.initialized (q_y mj).cls ∈ q_tbl ∧ (q_st mj = 0 → Cond.instanceMethod (q_y mj) ∈ q_tbl ∧ Cond.selects (q_y mj).cls (q_y mj) (q_y mj) ∈ q_tbl) ∧ (q_st mj = 1 → Cond.static (q_y mj) ∈ q_tbl) ∧ (q_st mj = 2 → Cond.instanceMethod (q_y mj) ∈ q_tbl ∧ (q_y mj).name = "<init>" ∧ q_rt mj = none) := by
  have h1 := q_mchk_all h
  unfold q_mchk at h1
  split at h1
  · simp only [Bool.and_eq_true] at h1
    obtain ⟨a1, a2, a3⟩ := h1
    refine ⟨q_wat_mem a1, q_wat_mem a2, fun z => ?_, fun z => ?_, fun z => ?_⟩
    · rw [z] at a3
      simp only [Bool.and_eq_true] at a3
      exact ⟨q_wat_mem a3.1, q_wat_mem a3.2⟩
    · rw [z] at a3
      exact q_wat_mem a3
    · rw [z] at a3
      simp only [Bool.and_eq_true, decide_eq_true_eq] at a3
      exact ⟨q_wat_mem a3.1, a3.2.1, a3.2.2⟩
theorem q_good {mj : Nat} (h : mj < 171) : GoodIn q_tbl (Cond.code (q_y mj) (q_by mj) (q_mx mj) (q_rt mj) :: q_tbl) := by
  intro w hw
  rcases List.mem_cons.mp hw with rfl | hw
  · exact q_tbl_good _ (q_mchk_spec h).1
  · exact q_tbl_good w hw
theorem q_ret_Q {r : Option Value} {H : Heap} {locs : List Loc} {ls : Array Slot} {args : Array Value} (hK : q_KK G s) (hA : q_At G s mi L M H locs ls) {v : Option Value} (hv : v = r.map (q_rv G)) : ∀ t : State, t.heap = H → s.WarmedH t.vm → q_Qc G r M args s (.returned v) t := by
  intro t ht _
  refine ⟨by rw [hv], by rw [ht]; exact hA.1, by rw [ht]; exact hA.2.1, hA.2.2.1, fun q hq => ?_⟩
  rw [ht]
  exact hA.2.2.2.1.2.1 q (Nat.lt_of_lt_of_le hq hK.2.2.2.2) (Nat.not_le.mpr hq)
/-- a call of an instance method, or of a constructor; of a static method -/
theorem q_invoke {nf mj : Nat} (ih : q_PW G l nf) {S' : qS} {As : List Value} {r : Option Value} {M' : qM} (hmc : mc ≤ R.cells) (hms : ms ≤ R.slots) (C : q_Cx G p R s m args meth c mi d)
    (h : q_ex (qgT G) (nf + 1) d mi (pc, L, st, M) = some (r, M')) (ha : q_act (qgT G) mi (pc, L, st, M) = some (.inr (.inr (mj, As, S')))) (hm : mj < 171) (hlen : As.length ≤ q_ml mj) (hone : q_one As = true) (hS' : S' = (pc + 3, L, S'.2.2.1, M))
    (run : ∀ (H : Heap) (locs : List Loc) (cells slots : Nat) (ls : Array Slot) (mc1 ms1 : Nat) (rm : Room) (v : Option Value) (M1 : qM), q_At G s mi L M H locs ls → Met l (q_y mj) (Cond.code (q_y mj) (q_by mj) (q_mx mj) (q_rt mj) :: q_tbl) rm (q_Pc G As M) (q_Qc G v M1) mc1 ms1 (qgF G) → rm.cells = mc1 → rm.slots = ms1 → rm.frames + 1 ≤ R.frames ∧ 8 + (q_mx mj + 11) + rm.locals ≤ R.locals → cells + mc1 ≤ R.cells ∧ slots + ms1 ≤ R.slots → PreS s H (q_Pc G As M) (As.map (q_rv G)) → va_Run p l e R s m args below meth c H locs cells slots mc1 ms1 (F0 m pc ls (st.map (q_rv G))) (S'.2.2.1.map (q_rv G)) (q_Qc G v M1 (As.map (q_rv G)).toArray) (qgF G)) :
    q_TT G p l e R s m args below meth c mi mc ms M'.1.length (q_sl M') (MQ below (q_Qc G r M') args s mc ms (qgF G)) (pc, L, st, M) := by
  rw [q_ex, ha] at h
  cases d with
  | zero => cases h
  | succ d' =>
    dsimp only at h
    cases hc : q_ex (qgT G) nf d' mj (0, q_ent mj As, [], M) with
    | none => rw [hc] at h; cases h
    | some w =>
      obtain ⟨v, M1⟩ := w
      rw [hc] at h
      dsimp only at h
      have g1 := q_ex_le2 hc
      have g2 := q_ex_le2 h
      dsimp only at g1 g2
      have hM := q_met ih hc (by omega) hlen hone
      obtain ⟨hp1, hp2, hp3, hp4, hp5, -⟩ := q_mch2_spec (show mj < 172 by omega)
      intro H locs cells slots ls hA hcc hss
      dsimp only at hcc hss hA
      have hf := C.2.2.2.2.2.2.2.2.2.1
      have hlo := C.2.2.2.2.2.2.2.2.2.2
      have hKK := C.2.2.2.2.2.2.2.2.1
      refine q_back (M := M) (M1 := M1) (v := v) (rest := S'.2.2.1) (run H locs cells slots ls _ _ _ v M1 hA hM rfl rfl ⟨by show d' + 2 + 1 ≤ _; omega, by show 8 + (q_mx mj + 11) + 64 * (d' + 2) ≤ _; omega⟩ ⟨by omega, by omega⟩ ⟨q_Pc_blind G As M, fun U hU hW => ⟨rfl, by rw [hU]; exact hA.1, by rw [hU]; exact hA.2.1, hA.2.2.1, q_KK_moved hKK hW (fun q hq => by rw [hU]; exact hA.2.2.2.1.2.1 q (Nat.lt_of_lt_of_le hq hKK.2.2.2.2) (Nat.not_le.mpr hq)) (by rw [hU, hA.2.1]; exact Nat.le_add_right _ _)⟩⟩) g1.1 hA (fun H1 locs1 hA1 => ?_)
      have K := ih (d' + 1) mi (S'.1, S'.2.1, v.toList ++ S'.2.2.1, M1) r M' h p e R s m args below meth c C mc ms hmc hms H1 locs1 (cells + (M1.1.length - M.1.length)) (slots + (q_sl M1 - q_sl M)) ls
      rw [hS'] at K
      exact K hA1 (by show _ ≤ mc + M1.1.length; omega) (by show _ ≤ ms + q_sl M1; omega)
theorem q_callV_spec {mj : Nat} {a : qR} (ha : q_callV pc L st M mj = some a) : ∃ (As rest : List Value) (b sz : Nat), st = As.reverse ++ .ref b :: rest ∧ As.length = q_na mj ∧ M.1[b]? = some (q_rc mj, sz) ∧ q_sum rest ≤ 8 ∧ q_one As = true ∧ a = .inr (.inr (mj, .ref b :: As, (pc, L, rest, M))) := by
  unfold q_callV at ha
  split at ha
  · next As b rest hsp =>
    split at ha
    · next ci sz hk =>
      obtain ⟨hb, ha⟩ := q_cd ha
      simp only [Bool.and_eq_true] at hb
      obtain ⟨h1, h2⟩ := q_split0 hsp
      rw [q_nth_eq, Nat.eq_of_beq_eq_true hb.1] at hk
      exact ⟨As, rest, b, sz, h2, h1, hk, Nat.le_of_ble_eq_true hb.2.1, hb.2.2, (Option.some.inj ha).symm⟩
    · cases ha
  · cases ha
theorem q_callS_spec {mj : Nat} {a : qR} (ha : q_callS pc L st M mj = some a) : ∃ (As rest : List Value), st = As.reverse ++ rest ∧ As.length = q_na mj ∧ q_sum rest ≤ 8 ∧ q_one As = true ∧ a = .inr (.inr (mj, As, (pc, L, rest, M))) := by
  unfold q_callS at ha
  split at ha
  · next As rest hsp =>
    obtain ⟨hb, ha⟩ := q_cd ha
    simp only [Bool.and_eq_true] at hb
    obtain ⟨h1, h2⟩ := q_split0 hsp
    exact ⟨As, rest, h2, h1, Nat.le_of_ble_eq_true hb.1, hb.2, (Option.some.inj ha).symm⟩
  · cases ha
theorem q_one_ref {As : List Value} {b : Nat} (h : q_one As = true) : q_one (.ref b :: As) = true := by
  unfold q_one at h ⊢
  rw [List.all_cons, h]
  rfl
end QL
theorem q_rcLt : ∀ mi, mi < 171 → q_st mi = 1 ∨ q_rc mi < 9 := by decide +kernel
