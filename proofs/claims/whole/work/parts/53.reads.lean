/-! the text: all items -/
theorem fill4 (x1 : Int32) : ∀ (d j fu : Nat) (m : Nat → Nat → Int32), j + d = 64 → d < fu → ∃ m', FL_Ar_fill_4_5 fu m x1 (nI j) 64 = some m' ∧ (∀ k, k ≠ 4 → m' k = m k) ∧ (∀ p, j ≤ p → p < 64 → m' 4 p = x1) ∧ ∀ p, p < j → m' 4 p = m 4 p := by
  intro d
  induction d with
  | zero =>
    intro j fu m e1 e2
    obtain ⟨fu, rfl⟩ : ∃ f, fu = f + 1 := ⟨fu - 1, by omega⟩
    obtain rfl : j = 64 := by omega
    rw [FL_Ar_fill_4_5, if_pos (by decide)]
    exact ⟨m, rfl, fun _ _ => rfl, fun p h1 h2 => absurd h1 (by omega), fun _ _ => rfl⟩
  | succ d ih =>
    intro j fu m e1 e2
    obtain ⟨fu, rfl⟩ : ∃ f, fu = f + 1 := ⟨fu - 1, by omega⟩
    have g1 : ¬ (64 : Int32) ≤ nI j := (nI_ge (by omega) (by omega) : ¬ nI 64 ≤ nI j)
    rw [FL_Ar_fill_4_5, if_neg g1, q_in_nI (j := j) (by omega) (by omega), nI_clamp (n := j) (by omega), cond_true, nI_1]
    obtain ⟨m', a1, a2, a3, a4⟩ := ih (j + 1) fu (q_w m 4 j x1) (by omega) (by omega)
    refine ⟨m', a1, fun k hk => by rw [a2 k hk, q_w_row _ _ _ hk], fun p h1 h2 => ?_, fun p hp => by rw [a4 p (by omega), q_w_ne _ _ (by omega)]⟩
    by_cases z : p = j
    · rw [a4 p (by omega), z, q_w_same]
    · exact a3 p (by omega) h2
theorem fill4_ok (x1 : Int32) (m : Nat → Nat → Int32) : ∃ m', F_Ar_fill_4 m x1 = some m' ∧ (∀ k, k ≠ 4 → m' k = m k) ∧ ∀ p, p < 64 → m' 4 p = x1 := by
  have hfu := qFU_big
  obtain ⟨m', a1, a2, a3, a4⟩ := fill4 x1 64 0 qFU m (by omega) (by omega)
  refine ⟨m', ?_, a2, fun p hp => a3 p (by omega) hp⟩
  unfold F_Ar_fill_4
  rw [show FL_Ar_fill_4_5 qFU m x1 0 64 = _ from a1]
  rfl
theorem fill6 (x1 : Int32) : ∀ (d j fu : Nat) (m : Nat → Nat → Int32), j + d = 8 → d < fu → ∃ m', FL_Ar_fill_6_5 fu m x1 (nI j) 8 = some m' ∧ (∀ k, k ≠ 6 → m' k = m k) ∧ (∀ p, j ≤ p → p < 8 → m' 6 p = x1) ∧ ∀ p, p < j → m' 6 p = m 6 p := by
  intro d
  induction d with
  | zero =>
    intro j fu m e1 e2
    obtain ⟨fu, rfl⟩ : ∃ f, fu = f + 1 := ⟨fu - 1, by omega⟩
    obtain rfl : j = 8 := by omega
    rw [FL_Ar_fill_6_5, if_pos (by decide)]
    exact ⟨m, rfl, fun _ _ => rfl, fun p h1 h2 => absurd h1 (by omega), fun _ _ => rfl⟩
  | succ d ih =>
    intro j fu m e1 e2
    obtain ⟨fu, rfl⟩ : ∃ f, fu = f + 1 := ⟨fu - 1, by omega⟩
    have g1 : ¬ (8 : Int32) ≤ nI j := (nI_ge (by omega) (by omega) : ¬ nI 8 ≤ nI j)
    rw [FL_Ar_fill_6_5, if_neg g1, q_in_nI (j := j) (by omega) (by omega), nI_clamp (n := j) (by omega), cond_true, nI_1]
    obtain ⟨m', a1, a2, a3, a4⟩ := ih (j + 1) fu (q_w m 6 j x1) (by omega) (by omega)
    refine ⟨m', a1, fun k hk => by rw [a2 k hk, q_w_row _ _ _ hk], fun p h1 h2 => ?_, fun p hp => by rw [a4 p (by omega), q_w_ne _ _ (by omega)]⟩
    by_cases z : p = j
    · rw [a4 p (by omega), z, q_w_same]
    · exact a3 p (by omega) h2
theorem fill6_ok (x1 : Int32) (m : Nat → Nat → Int32) : ∃ m', F_Ar_fill_6 m x1 = some m' ∧ (∀ k, k ≠ 6 → m' k = m k) ∧ ∀ p, p < 8 → m' 6 p = x1 := by
  have hfu := qFU_big
  obtain ⟨m', a1, a2, a3, a4⟩ := fill6 x1 8 0 qFU m (by omega) (by omega)
  refine ⟨m', ?_, a2, fun p hp => a3 p (by omega) hp⟩
  unfold F_Ar_fill_6
  rw [show FL_Ar_fill_6_5 qFU m x1 0 8 = _ from a1]
  rfl
theorem fill20 (x1 : Int32) : ∀ (d j fu : Nat) (m : Nat → Nat → Int32), j + d = 8 → d < fu → ∃ m', FL_Ar_fill_20_5 fu m x1 (nI j) 8 = some m' ∧ (∀ k, k ≠ 20 → m' k = m k) ∧ (∀ p, j ≤ p → p < 8 → m' 20 p = x1) ∧ ∀ p, p < j → m' 20 p = m 20 p := by
  intro d
  induction d with
  | zero =>
    intro j fu m e1 e2
    obtain ⟨fu, rfl⟩ : ∃ f, fu = f + 1 := ⟨fu - 1, by omega⟩
    obtain rfl : j = 8 := by omega
    rw [FL_Ar_fill_20_5, if_pos (by decide)]
    exact ⟨m, rfl, fun _ _ => rfl, fun p h1 h2 => absurd h1 (by omega), fun _ _ => rfl⟩
  | succ d ih =>
    intro j fu m e1 e2
    obtain ⟨fu, rfl⟩ : ∃ f, fu = f + 1 := ⟨fu - 1, by omega⟩
    have g1 : ¬ (8 : Int32) ≤ nI j := (nI_ge (by omega) (by omega) : ¬ nI 8 ≤ nI j)
    rw [FL_Ar_fill_20_5, if_neg g1, q_in_nI (j := j) (by omega) (by omega), nI_clamp (n := j) (by omega), cond_true, nI_1]
    obtain ⟨m', a1, a2, a3, a4⟩ := ih (j + 1) fu (q_w m 20 j x1) (by omega) (by omega)
    refine ⟨m', a1, fun k hk => by rw [a2 k hk, q_w_row _ _ _ hk], fun p h1 h2 => ?_, fun p hp => by rw [a4 p (by omega), q_w_ne _ _ (by omega)]⟩
    by_cases z : p = j
    · rw [a4 p (by omega), z, q_w_same]
    · exact a3 p (by omega) h2
theorem fill20_ok (x1 : Int32) (m : Nat → Nat → Int32) : ∃ m', F_Ar_fill_20 m x1 = some m' ∧ (∀ k, k ≠ 20 → m' k = m k) ∧ ∀ p, p < 8 → m' 20 p = x1 := by
  have hfu := qFU_big
  obtain ⟨m', a1, a2, a3, a4⟩ := fill20 x1 8 0 qFU m (by omega) (by omega)
  refine ⟨m', ?_, a2, fun p hp => a3 p (by omega) hp⟩
  unfold F_Ar_fill_20
  rw [show FL_Ar_fill_20_5 qFU m x1 0 8 = _ from a1]
  rfl
theorem fill21 (x1 : Int32) : ∀ (d j fu : Nat) (m : Nat → Nat → Int32), j + d = 8 → d < fu → ∃ m', FL_Ar_fill_21_5 fu m x1 (nI j) 8 = some m' ∧ (∀ k, k ≠ 21 → m' k = m k) ∧ (∀ p, j ≤ p → p < 8 → m' 21 p = x1) ∧ ∀ p, p < j → m' 21 p = m 21 p := by
  intro d
  induction d with
  | zero =>
    intro j fu m e1 e2
    obtain ⟨fu, rfl⟩ : ∃ f, fu = f + 1 := ⟨fu - 1, by omega⟩
    obtain rfl : j = 8 := by omega
    rw [FL_Ar_fill_21_5, if_pos (by decide)]
    exact ⟨m, rfl, fun _ _ => rfl, fun p h1 h2 => absurd h1 (by omega), fun _ _ => rfl⟩
  | succ d ih =>
    intro j fu m e1 e2
    obtain ⟨fu, rfl⟩ : ∃ f, fu = f + 1 := ⟨fu - 1, by omega⟩
    have g1 : ¬ (8 : Int32) ≤ nI j := (nI_ge (by omega) (by omega) : ¬ nI 8 ≤ nI j)
    rw [FL_Ar_fill_21_5, if_neg g1, q_in_nI (j := j) (by omega) (by omega), nI_clamp (n := j) (by omega), cond_true, nI_1]
    obtain ⟨m', a1, a2, a3, a4⟩ := ih (j + 1) fu (q_w m 21 j x1) (by omega) (by omega)
    refine ⟨m', a1, fun k hk => by rw [a2 k hk, q_w_row _ _ _ hk], fun p h1 h2 => ?_, fun p hp => by rw [a4 p (by omega), q_w_ne _ _ (by omega)]⟩
    by_cases z : p = j
    · rw [a4 p (by omega), z, q_w_same]
    · exact a3 p (by omega) h2
theorem fill21_ok (x1 : Int32) (m : Nat → Nat → Int32) : ∃ m', F_Ar_fill_21 m x1 = some m' ∧ (∀ k, k ≠ 21 → m' k = m k) ∧ ∀ p, p < 8 → m' 21 p = x1 := by
  have hfu := qFU_big
  obtain ⟨m', a1, a2, a3, a4⟩ := fill21 x1 8 0 qFU m (by omega) (by omega)
  refine ⟨m', ?_, a2, fun p hp => a3 p (by omega) hp⟩
  unfold F_Ar_fill_21
  rw [show FL_Ar_fill_21_5 qFU m x1 0 8 = _ from a1]
  rfl
theorem reads_rst (fv : Nat) (n : Nat → Nat → Int32) (h : ¬ n 56 12 = 0) : FL_Mo_reads_44 (fv + 1) n = Option.bind (rst n) (fun (r, m) => if r = 0 then some (.inl (0, m)) else FL_Mo_reads_44 fv m) := by
  rw [FL_Mo_reads_44, if_neg h]
  unfold rst
  cases F_Mo_readsItem n with
  | none => rfl
  | some a =>
    obtain ⟨r, m3⟩ := a
    rw [Option.bind_some, Option.bind_some]
    dsimp only
    by_cases z : r = 0
    · rw [if_pos z, if_pos z]
      rfl
    · rw [if_neg z, if_neg z]
      by_cases y : m3 56 12 = 3
      · rw [if_pos y, if_pos y]
        cases F_Mo_token (q_w m3 59 6 (m3 59 6 + 1)) with
        | none => rfl
        | some m7 => rfl
      · rw [if_neg y, if_neg y]
        rfl
theorem reads_loop {len : Nat} {tx : Nat → Nat} : ∀ (d fu fv it b e : Nat) (l : aL) (m n : Nat → Nat → Int32), len ≤ b + d → d < fu → d < fv → it ≤ b → rText len tx m n → tRl len tx m n b e → dA l it m n → (it = 0 → lK l = 0 ∧ ∀ k, k < 64 → lF l k = 0) → ∃ m' n', frCd m m' ∧ frMd n n' ∧ ((∃ l' it', it' ≤ 200 ∧ FL_Re_readAll_1_23 fu m (nI it) = some (.inl (nI it', m')) ∧ FL_Mo_reads_44 fv n = some (.inr n') ∧ dA l' it' m' n') ∨ (FL_Re_readAll_1_23 fu m (nI it) = some (.inr m') ∧ FL_Mo_reads_44 fv n = some (.inl (0, n')) ∧ ∃ p, p ≤ 200 ∧ fpl m' p ∧ n' 56 13 = nI p)) := by
  intro d
  induction d with
  | zero =>
    intro fu fv it b e l m n e1 e2 e3 e4 ht hr h h0
    obtain ⟨fu, rfl⟩ : ∃ f, fu = f + 1 := ⟨fu - 1, by omega⟩
    obtain ⟨fv, rfl⟩ : ∃ f, fv = f + 1 := ⟨fv - 1, by omega⟩
    have l2 := ht.2.2.1
    have be := hr.2.2.2.2.1
    have bl := hr.2.2.2.2.2.1
    have z : m 70 (m 1 5).toNatClampNeg = 256 := by
      apply Classical.byContradiction
      intro y
      have := tRl_adv hr y
      omega
    have g : ¬ (200 : Int32) < nI it := (nI_nlt (by omega) (by omega) : ¬ nI 200 < nI it)
    refine ⟨m, n, frCd.rf _, frMd.rf _, Or.inl ⟨l, it, by omega, ?_, ?_, h⟩⟩
    · rw [FL_Re_readAll_1_23, if_neg g, hr.1.q, cond_true, if_pos z]
    · rw [FL_Mo_reads_44, if_pos ((tRl_end hr).mp z)]
  | succ d ih =>
    intro fu fv it b e l m n e1 e2 e3 e4 ht hr h h0
    obtain ⟨fu, rfl⟩ : ∃ f, fu = f + 1 := ⟨fu - 1, by omega⟩
    obtain ⟨fv, rfl⟩ : ∃ f, fv = f + 1 := ⟨fv - 1, by omega⟩
    have l2 := ht.2.2.1
    have be := hr.2.2.2.2.1
    have bl := hr.2.2.2.2.2.1
    have g : ¬ (200 : Int32) < nI it := (nI_nlt (by omega) (by omega) : ¬ nI 200 < nI it)
    by_cases z : m 70 (m 1 5).toNatClampNeg = 256
    · refine ⟨m, n, frCd.rf _, frMd.rf _, Or.inl ⟨l, it, by omega, ?_, ?_, h⟩⟩
      · rw [FL_Re_readAll_1_23, if_neg g, hr.1.q, cond_true, if_pos z]
      · rw [FL_Mo_reads_44, if_pos ((tRl_end hr).mp z)]
    · obtain ⟨m1, n1, f1, f2, o⟩ := item_ok ht hr z h (by omega) h0
      have cl : FL_Re_readAll_1_23 (fu + 1) m (nI it) = Option.bind (F_Re_readItem_1 m (if it = 0 then 1 else 0)) (fun (r4, m5) => if r4 = 0 then some (.inr m5) else FL_Re_readAll_1_23 fu m5 (nI (it + 1))) := by
        rw [FL_Re_readAll_1_23, if_neg g, hr.1.q, cond_true, if_neg z, nI_1]
        by_cases y : it = 0
        · rw [if_pos (show nI it = 0 by rw [y]; rfl), if_pos y]
        · rw [if_neg (nI_ne0 (by omega) (by omega)), if_neg y]
      rw [cl, reads_rst fv n (fun y => z ((tRl_end hr).mpr y))]
      rcases o with ⟨o1, o2, o3⟩ | ⟨o1, o2, l', b', e', o3, o4, o5⟩
      · rw [o1, o2]
        exact ⟨m1, n1, f1, f2, Or.inr ⟨rfl, rfl, o3⟩⟩
      · rw [o1, o2, Option.bind_some, Option.bind_some]
        dsimp only
        rw [if_neg ne1, if_neg ne1]
        obtain ⟨m', n', i1, i2, i3⟩ := ih fu fv (it + 1) b' e' l' m1 n1 (by omega) (by omega) (by omega) (by omega) (ht.frd f1 f2) o4 o5 (fun y => absurd y (by omega))
        exact ⟨m', n', f1.tr i1, f2.tr i2, i3⟩
theorem reads2 : ∀ (d j fu : Nat) (n : Nat → Nat → Int32), j + d = 93 → d < fu → ∃ n', FL_Mo_reads_2 fu n (nI j) = some n' ∧ (∀ k, k ≠ 59 → n' k = n k) ∧ (∀ p, j ≤ p → p < 93 → n' 59 p = 0) ∧ ∀ p, p < j → n' 59 p = n 59 p := by
  intro d
  induction d with
  | zero =>
    intro j fu m e1 e2
    obtain ⟨fu, rfl⟩ : ∃ f, fu = f + 1 := ⟨fu - 1, by omega⟩
    obtain rfl : j = 93 := by omega
    rw [FL_Mo_reads_2, if_pos (by decide)]
    exact ⟨m, rfl, fun _ _ => rfl, fun p h1 h2 => absurd h1 (by omega), fun _ _ => rfl⟩
  | succ d ih =>
    intro j fu m e1 e2
    obtain ⟨fu, rfl⟩ : ∃ f, fu = f + 1 := ⟨fu - 1, by omega⟩
    have g1 : ¬ (93 : Int32) ≤ nI j := (nI_ge (by omega) (by omega) : ¬ nI 93 ≤ nI j)
    rw [FL_Mo_reads_2, if_neg g1, q_in_nI (j := j) (by omega) (by omega), nI_clamp (n := j) (by omega), cond_true, nI_1]
    obtain ⟨m', a1, a2, a3, a4⟩ := ih (j + 1) fu (q_w m 59 j 0) (by omega) (by omega)
    refine ⟨m', a1, fun k hk => by rw [a2 k hk, q_w_row _ _ _ hk], fun p h1 h2 => ?_, fun p hp => by rw [a4 p (by omega), q_w_ne _ _ (by omega)]⟩
    by_cases z : p = j
    · rw [a4 p (by omega), z, q_w_same]
    · exact a3 p (by omega) h2
def l00 : aL := ((4, 0, 0, 3, 0, 0), fun _ => 0, fun _ => 0, fun _ => 0, fun _ => 0, fun _ => none)
theorem reads_ok {len : Nat} {tx : Nat → Nat} {m n : Nat → Nat → Int32} (ht : rText len tx m n) : ∃ m' n', frCe m m' ∧ frMd n n' ∧ ((∃ l' it', it' ≤ 200 ∧ F_Re_readAll_1 m = some (nI it', m') ∧ F_Mo_reads n = some (1, n') ∧ dA l' it' m' n') ∨ (∃ p, p ≤ 200 ∧ F_Re_readAll_1 m = some (Int32.ofInt (-10) - nI p, m') ∧ F_Mo_reads n = some (0, n') ∧ n' 56 13 = nI p)) := by
  have hfu := qFU_big
  have l2 := ht.2.2.1
  -- the class
  obtain ⟨m0, hm0⟩ : ∃ m0, m0 = q_w (q_w (q_w (q_w (q_w (q_w m 3 0 4) 3 1 0) 3 2 0) 3 3 3) 3 4 0) 3 5 0 := ⟨_, rfl⟩
  obtain ⟨m1, a1, a2, a3⟩ := fill4_ok 0 m0
  obtain ⟨m2, b1, b2, b3⟩ := fill6_ok 0 m1
  have wip : F_La_wipe_3 m = some m2 := by
    unfold F_La_wipe_3
    rw [← hm0, a1, Option.bind_some, b1]
    rfl
  have m3r : ∀ j, m2 3 j = m0 3 j := fun j => by rw [b2 _ (by omega), a2 _ (by omega)]
  have fr0 : frCd m m0 := by
    rw [hm0]
    exact ((((((frCd.rf m).w _ (by omega)).w _ (by omega)).w _ (by omega)).w _ (by omega)).w _ (by omega)).w _ (by omega)
  have fr2 : frCd m m2 := ⟨fun k k1 k3 k4 k6 k7 k8 => by rw [b2 k k6, a2 k k4]; exact fr0.1 k k1 k3 k4 k6 k7 k8, fun j hj => by rw [b2 _ (by omega), a2 _ (by omega)]; exact fr0.2 j hj⟩
  obtain ⟨m3, hm3⟩ : ∃ m3, m3 = q_w (q_w m2 1 6 0) 1 5 0 := ⟨_, rfl⟩
  -- the reference
  obtain ⟨n1, c1, c2, c3, c4⟩ := reads2 93 0 qFU n (by omega) (by omega)
  obtain ⟨n2, hn2⟩ : ∃ n2, n2 = q_w (q_w (q_w n1 59 0 4) 59 3 3) 56 11 0 := ⟨_, rfl⟩
  have rm3 : ∀ k, k ≠ 1 → m3 k = m2 k := fun k hk => by rw [hm3, q_w_row _ _ _ hk, q_w_row _ _ _ hk]
  have rn2 : ∀ k, k ≠ 56 → k ≠ 59 → n2 k = n k := fun k k1 k2 => by rw [hn2, q_w_row _ _ _ k1, q_w_row _ _ _ k2, q_w_row _ _ _ k2, c2 k k2]
  have hm31 : ∀ j, j ≠ 5 → j ≠ 6 → m3 1 j = m2 1 j := fun j h6 h7 => by rw [hm3, q_w_ne _ _ (by omega), q_w_ne _ _ (by omega)]
  have hn56 : ∀ j, j ≠ 11 → n2 56 j = n 56 j := fun j hj => by rw [hn2, q_w_ne _ _ (by omega), q_w_row _ _ _ (by omega), q_w_row _ _ _ (by omega), c2 _ (by omega)]
  have ht3 : rText len tx m3 n2 := ht.of (by rw [hm31 1 (by omega) (by omega)]; exact fr2.2 1 (by omega)) (by rw [rm3 _ (by omega)]; exact fr2.1 2 (by omega) (by omega) (by omega) (by omega) (by omega) (by omega)) (hn56 _ (by omega)) (rn2 _ (by omega) (by omega))
  have n59 : ∀ p, p < 93 → p ≠ 0 → p ≠ 3 → n2 59 p = 0 := fun p hp h0 h3 => by rw [hn2, q_w_row _ _ _ (by omega), q_w_ne _ _ (by omega), q_w_ne _ _ (by omega)]; exact c3 p (by omega) hp
  have d0 : dA l00 0 m3 n2 := by
    refine ⟨⟨⟨by decide, by decide⟩, by decide, by decide, ⟨by decide, by decide⟩, by decide, by decide, fun _ _ => Nat.zero_le 9, fun _ _ => (show 0 < 256 by decide), fun h hh => absurd hh (by show ¬ h < 0; omega), fun i hi => absurd hi (by show ¬ i < 0; omega), fun _ _ _ _ => rfl, fun _ _ _ _ _ => rfl⟩, ⟨?_, ?_, ?_, ?_, ?_, ?_, ?_, ?_, ?_, ?_⟩, ⟨?_, n59 1 (by omega) (by omega) (by omega), n59 2 (by omega) (by omega) (by omega), ?_, n59 4 (by omega) (by omega) (by omega), n59 5 (by omega) (by omega) (by omega), n59 6 (by omega) (by omega) (by omega), fun k hk => n59 _ (by omega) (by omega) (by omega), fun k hk => n59 _ (by omega) (by omega) (by omega), fun h hh => absurd hh (by show ¬ h < 0; omega), fun i hi => absurd hi (by show ¬ i < 0; omega)⟩, ⟨0, 0, ?_, by decide, n59 7 (by omega) (by omega) (by omega), by decide, rfl, rfl, rfl, rfl⟩⟩
    · rw [rm3 _ (by omega), m3r, hm0]; repeat (rw [q_w_ne _ _ (by omega)])
      exact q_w_same _ _ _ _
    · rw [rm3 _ (by omega), m3r, hm0]; repeat (rw [q_w_ne _ _ (by omega)])
      exact q_w_same _ _ _ _
    · rw [rm3 _ (by omega), m3r, hm0]; repeat (rw [q_w_ne _ _ (by omega)])
      exact q_w_same _ _ _ _
    · rw [rm3 _ (by omega), m3r, hm0]; repeat (rw [q_w_ne _ _ (by omega)])
      exact q_w_same _ _ _ _
    · rw [rm3 _ (by omega), m3r, hm0]; repeat (rw [q_w_ne _ _ (by omega)])
      exact q_w_same _ _ _ _
    · rw [rm3 _ (by omega), m3r, hm0]
      exact q_w_same _ _ _ _
    · intro k hk
      rw [rm3 _ (by omega), b2 _ (by omega)]
      exact a3 k hk
    · intro k hk
      rw [rm3 _ (by omega)]
      exact b3 k hk
    · exact fun h hh => absurd hh (by show ¬ h < 0; omega)
    · exact fun i hi => absurd hi (by show ¬ i < 0; omega)
    · rw [hn2, q_w_row _ _ _ (by omega), q_w_ne _ _ (by omega)]
      exact q_w_same _ _ _ _
    · rw [hn2, q_w_row _ _ _ (by omega)]
      exact q_w_same _ _ _ _
    · rw [hm3, q_w_ne _ _ (by omega)]
      exact q_w_same _ _ _ _
  obtain ⟨m4, T, Pp, Bb, s1, s2, s3⟩ := split_ok ht3
  have ht4 : rText len tx m4 n2 := ht3.of (by rw [s3 1 (by omega) (by omega)]) (s3 2 (by omega) (by omega)) rfl rfl
  have d4 : dA l00 0 m4 n2 := ⟨d0.1, d0.2.1.fr (s3 _ (by omega) (by omega)) (s3 _ (by omega) (by omega)) (s3 _ (by omega) (by omega)) (s3 _ (by omega) (by omega)) (s3 _ (by omega) (by omega)), d0.2.2.1, d0.2.2.2.fr (by rw [s3 1 (by omega) (by omega)]) rfl⟩
  obtain ⟨n4, b, e, k2, k4, k6⟩ := first_ok ht4 s2 (by rw [s3 1 (by omega) (by omega), hm3]; exact q_w_same _ _ _ _) (by rw [hn2]; exact q_w_same _ _ _ _)
  obtain ⟨m', n', i1, i2, i3⟩ := reads_loop (len := len) (tx := tx) len qFU qFU 0 b e l00 m4 n4 (by omega) (by omega) (by omega) (by omega) (ht4.fr (frC.rf _) k4) k6 (d4.fr (frC.rf _) k4) (fun _ => ⟨rfl, fun _ _ => rfl⟩)
  have FC : frCe m m' := by
    have f3 : frCd m m3 := ⟨fun k q1 q3 q4 q6 q7 q8 => by rw [rm3 k q1]; exact fr2.1 k q1 q3 q4 q6 q7 q8, fun j hj => by rw [hm31 j (by omega) (by omega)]; exact fr2.2 j hj⟩
    have f4 : frCe m3 m4 := ⟨fun k _ _ _ _ _ _ q9 => s3 k (by omega) (by omega), fun j _ => by rw [s3 1 (by omega) (by omega)]⟩
    exact (f3.e.tr f4).tr i1.e
  have FM : frMd n n' := by
    have f2 : frMd n n2 := ⟨rn2, fun j hj => hn56 j (by omega)⟩
    exact (f2.tr k4.d).tr i2
  unfold F_Re_readAll_1 F_Mo_reads
  rw [wip, Option.bind_some, ← hm3, s1, Option.bind_some, show FL_Mo_reads_2 qFU n 0 = _ from c1, Option.bind_some, ← hn2, k2, Option.bind_some]
  refine ⟨m', n', FC, FM, ?_⟩
  rcases i3 with ⟨l', it', j1, j2, j3, j4⟩ | ⟨j2, j3, p, p1, p2, p3⟩
  · left
    refine ⟨l', it', j1, ?_, ?_, j4⟩
    · rw [show FL_Re_readAll_1_23 qFU m4 0 = _ from j2]
      rfl
    · rw [j3]
      rfl
  · right
    refine ⟨p, p1, ?_, ?_, p3⟩
    · rw [show FL_Re_readAll_1_23 qFU m4 0 = _ from j2, Option.bind_some]
      dsimp only
      rw [p2.q, cond_true, p2.at]
    · rw [j3]
      rfl
