/-! the law's start -/
theorem sl_ok (m n : Nat → Nat → Int32) (lm : Nat → Int64) : (qMM m n lm).1.length ≤ 600000 ∧ q_sl (qMM m n lm) ≤ 7302250 := by
  have h : qSH.length ≤ 600000 ∧ (qSH.map (fun x => x.2)).sum ≤ 7302250 := by decide +kernel
  exact h
theorem whole_start {p : Program} {e : Env} {s : State} {m : MethodId} {below : List Frame} {meth : Method} {c : Code} (l : Launch) (_hflags : l.flags = flags0) {b L : Nat} {xs : Nat → Int32} (hL : L ≤ 320) (C0 : lw_At p s m meth c b L xs) : W p l e room_1 s m #[Value.ref b] below meth c s.heap [] 0 0 (lw_Z below #[Value.ref b] s) (entryFrame m ([Value.ref b] : List Value).toArray 4) := by
  refine q_begin l hL C0 ?_
  obtain ⟨r, ⟨M', h1, h2, h3⟩, h4⟩ := head_ok (Ln := L) (xs := xs) (P := fun r => ∃ M' : qM, r = (some (.int 1), M') ∧ M'.1.length ≤ 600000 ∧ q_sl M' ≤ 7302250) (fun mc mm lm hR hlm => by
    obtain ⟨mc', mm', lm', hF⟩ := law_loop (xs := xs) hL 400 0 1000 mc mm lm (by omega) (by omega) (by omega) hR hlm
    refine ⟨(some (.int 1), qMM mc' mm' lm'), ⟨_, rfl, (sl_ok mc' mm' lm').1, (sl_ok mc' mm' lm').2⟩, ?_⟩
    refine TL_Law_law_1000_18 (by omega) 1000 mc mm lm 0 (.inr (mc', mm', lm')) hF (fun rv mc1 mm1 lm1 z => by cases z) (fun mc1 mm1 lm1 z u3 => ?_)
    obtain ⟨rfl, rfl, rfl⟩ : mc' = mc1 ∧ mm' = mm1 ∧ lm' = lm1 := by
      have z1 := Sum.inr.inj z
      exact ⟨congrArg (fun x => x.1) z1, congrArg (fun x => x.2.1) z1, congrArg (fun x => x.2.2) z1⟩
    refine q_ev_run 1 (S' := (846, [some (.ref 1000), some (.ref 0), some (.ref 58), u3], [.int 1], qMM mc' mm' lm')) rfl ?_
    exact q_ev_ret rfl rfl)
  subst h1
  exact ⟨M', h4, h2, h3⟩
