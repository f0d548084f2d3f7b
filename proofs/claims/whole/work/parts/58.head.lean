/-! from the law's entry to its loop -/
theorem cons103 {Ln : Nat} {xs : Nat → Int32} {MA : qM} (hA : q_iA = some (none, MA)) : ∃ m n lm, q_Ev (qXT Ln xs) 59 104 (0, [some (.ref 58)], [], q_new MA (8, 21)) (none, qMM m n lm) ∧ rR m n ∧ lm 0 = lm 56 := by
  obtain ⟨m, n, lm, h1, h2, h3, h4, h5⟩ := okB_ex hA
  obtain ⟨f1, f2, f3, f4, f5, f6, f7⟩ := firstA h5
  obtain ⟨n1, r1, r2, r3⟩ := reads_empty (tx := fun _ => 0) (m := m) f1 h4
  obtain ⟨n2, t1, t2, t3, t4, t5, t6, t7, t8, t9⟩ := tells_ok l00_ok r2
  refine ⟨m, n2, lm, ?_, fresh_ok (l := lw l00) (tx := fun _ => 0) ⟨lw_ok l00_ok, f2, t2⟩ f3 t3 f4 f1 (by rw [t8 2 (by omega)]; exact r3) f5 t4 f6 t5 f7 t6, by rw [h2, h3]⟩
  refine q_ev_run 55 (q_run_xt 55 h1) ?_
  refine q_ev_call (S' := (114, [some (.ref 58)], [], qMM m n lm)) rfl (by omega) (T_Mo_reads (by omega) r1) ?_
  refine q_ev_eq (S' := (114, [some (.ref 58)], [.int 1], qMM m n1 lm)) rfl ?_
  refine q_ev_run 2 (S' := (116, [some (.ref 58)], [.ref 58], qMM m n1 lm)) rfl ?_
  refine q_ev_call (S' := (119, [some (.ref 58)], [], qMM m n1 lm)) rfl (by omega) (T_Mo_tells (by omega) t1) ?_
  refine q_ev_eq (S' := (119, [some (.ref 58)], [], qMM m n2 lm)) rfl ?_
  exact q_ev_ret rfl rfl
theorem head_ok {Ln : Nat} {xs : Nat → Int32} {P : Option Value × qM → Prop} (hE : ∀ mc mm lm, rR mc mm → lm 0 = lm 56 → ∃ r, P r ∧ q_Ev (qXT Ln xs) 60 171 (18, [some (.ref 1000), some (.ref 0), some (.ref 58), some (.int 0)], [], qMM mc mm lm) r) : ∃ r, P r ∧ q_Ev (qXT Ln xs) 60 171 (0, [some (.ref 1000), none, none, none], [], qM0) r := by
  obtain ⟨MA, hA, a1, a2, a3, a4⟩ := okA_ex
  have hc66 : q_Ev (qXT Ln xs) 59 67 (0, [some (.ref 0)], [], q_new qM0 (7, 10)) (none, MA) := by
    refine ⟨40000, ?_⟩
    have h1 : q_ex q_xt0 40000 40 67 (0, [some (.ref 0)], [], q_new qM0 (7, 10)) = some (none, MA) := hA
    exact q_ex_dk (qXT Ln xs) (q_ex_xt 40000 40 67 _ _ h1) 19
  obtain ⟨m, n, lm, c1, c2, c3⟩ := cons103 (Ln := Ln) (xs := xs) hA
  obtain ⟨r, hr, hr2⟩ := hE m n lm c2 c3
  refine ⟨r, hr, ?_⟩
  refine q_ev_run 2 (S' := (4, [some (.ref 1000), none, none, none], [.ref 0, .ref 0], q_new qM0 (7, 10))) rfl ?_
  refine q_ev_call (S' := (7, [some (.ref 1000), none, none, none], [.ref 0], q_new qM0 (7, 10))) rfl (by omega) hc66 ?_
  obtain ⟨s, m1, n1, lm1, rf⟩ := MA
  have a1 : s = qSH.take 58 := a1
  have hnew : ∃ M2, M2 = q_new (s, m1, n1, lm1, rf) (8, 21) ∧ q_nth M2.1 58 = some (8, 21) := by
    refine ⟨_, rfl, ?_⟩
    subst a1
    rfl
  obtain ⟨M2, hM2, hM3⟩ := hnew
  refine q_ev_run 3 (S' := (12, [some (.ref 1000), some (.ref 0), none, none], [.ref 58, .ref 58], M2)) ?_ ?_
  · rw [hM2]
    subst a1
    rfl
  · rw [← hM2] at c1
    refine q_ev_call (mj := 104) (As := [.ref 58]) (S' := (15, [some (.ref 1000), some (.ref 0), none, none], [.ref 58], M2)) ?_ (by omega) c1 ?_
    · show q_callV 15 _ [.ref 58, .ref 58] M2 104 = _
      unfold q_callV
      show (match q_nth M2.1 58 with
        | some (ci, _) => cond (Nat.beq ci (q_rc 104) && (Nat.ble (q_sum [.ref 58]) 8 && q_one [])) (some (Sum.inr (Sum.inr (104, [.ref 58], (15, [some (.ref 1000), some (.ref 0), none, none], [.ref 58], M2)))) : Option qR) (none : Option qR)
        | none => (none : Option qR)) = _
      rw [hM3]
      rfl
    · refine q_ev_eq (S' := (15, [some (.ref 1000), some (.ref 0), none, none], [.ref 58], qMM m n lm)) rfl ?_
      exact q_ev_run 3 rfl hr2
