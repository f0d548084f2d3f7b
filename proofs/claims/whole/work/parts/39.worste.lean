/-! worst: both -/
theorem nI_nle9 {a : Nat} (h : a < 2 ^ 31) : ¬ nI a ≤ Int32.ofInt (-9) := by
  rw [Int32.le_iff_toInt_le, nI_toInt h]
  have h2 : (Int32.ofInt (-9)).toInt = -9 := by decide
  omega
theorem laysCourse_ok {l : aL} (hk : aLok l) {k code pl : Nat} (hk4 : k ≤ 4) (hcode : code < 2 ^ 20) (hp : pl < lP l) {m : Nat → Nat → Int32} (hm : LMo l m) : ∃ m', (match lay l code k 1 (fun _ => pl) with | none => F_Mo_laysCourse m (nI pl) (nI k) (nI code) = some (0, m') | some c' => F_Mo_laysCourse m (nI pl) (nI k) (nI code) = some (1, m') ∧ fInv l (k + 1) c' (mt l c') m') ∧ (∀ q, q ≠ 56 → q ≠ 65 → q ≠ 66 → m' q = m q) ∧ ∀ j, j ≠ 17 → m' 56 j = m 56 j := by
  have hfu := qFU_big
  have p8 := hk.1.2
  obtain ⟨m0, hm0⟩ : ∃ m0, m0 = q_w (q_w (q_w m 56 17 (nI (k + 1))) 65 0 (nI pl)) 66 0 0 := ⟨_, rfl⟩
  have lm0 : LMo l m0 := by rw [hm0]; exact hm.of (by repeat (first | rfl | rw [q_w_ne _ _ (by omega)] | rw [q_w_row _ _ _ (by omega)] | rw [q_cw_row _ _ _ _ (by omega)])) (by repeat (first | rfl | rw [q_w_ne _ _ (by omega)] | rw [q_w_row _ _ _ (by omega)] | rw [q_cw_row _ _ _ _ (by omega)]))
  have fr0 : ∀ q, q ≠ 56 → q ≠ 65 → q ≠ 66 → m0 q = m q := fun q a b c => by rw [hm0, q_w_row _ _ _ c, q_w_row _ _ _ b, q_w_row _ _ _ a]
  have e17 : m0 56 17 = nI (k + 1) := by rw [hm0, q_w_row _ _ _ (by omega), q_w_row _ _ _ (by omega), q_w_same]
  have fr56 : ∀ j, j ≠ 17 → m0 56 j = m 56 j := fun j hj => by rw [hm0, q_w_row _ _ _ (by omega), q_w_row _ _ _ (by omega), q_w_ne _ _ (by omega)]
  have r0 : ∀ j, j < 1 → m0 65 j = nI ((fun _ => pl) j) ∧ m0 66 j = nI (mt l (fun _ => pl) j) := fun j hj => by
    obtain rfl : j = 0 := by omega
    rw [hm0]
    exact ⟨by rw [q_w_row _ _ _ (by omega), q_w_same], by rw [q_w_same]; rfl⟩
  have L : ∃ m', (match lay l code k 1 (fun _ => pl) with | none => FL_Mo_laysCourse_49 qFU m0 (nI k) (nI code) (nI (8 ^ (k - 1))) (nI 1) = some (.inl (0, m')) | some c' => FL_Mo_laysCourse_49 qFU m0 (nI k) (nI code) (nI (8 ^ (k - 1))) (nI 1) = some (.inr m') ∧ (∀ j, j < k + 1 → m' 65 j = nI (c' j) ∧ m' 66 j = nI (mt l c' j)) ∧ ∀ j, j < k + 1 → c' j < lP l) ∧ ∀ q, q ≠ 65 → q ≠ 66 → m' q = m0 q := by
    by_cases z : k = 0
    · subst z
      obtain ⟨fu, hf2⟩ : ∃ fu, qFU = fu + 1 := ⟨qFU - 1, by omega⟩
      rw [lay]
      refine ⟨m0, ⟨?_, fun j hj => r0 j (by omega), fun j hj => hp⟩, fun _ _ _ => rfl⟩
      rw [hf2, FL_Mo_laysCourse_49, if_pos (nI_lt (by omega) (by omega))]
    · obtain ⟨p, rfl⟩ : ∃ p, k = p + 1 := ⟨k - 1, by omega⟩
      have := lc49_loop hk hk4 hcode (p + 1) 1 qFU (fun _ => pl) m0 (by omega) (by omega) (by omega) lm0 (fun j hj => hp) r0
      rw [show 8 ^ (p + 1) / 8 = 8 ^ p by rw [Nat.pow_succ, Nat.mul_div_cancel _ (by omega)]] at this
      exact this
  have u := lc27_loop m0 (nI code) hk4 (k - 1) 1 qFU 0 (by omega) (by omega)
  rw [Nat.zero_add] at u
  obtain ⟨m', a1, a2⟩ := L
  refine ⟨m', ?_, fun q q0 q1 q2 => by rw [a2 q q1 q2, fr0 q q0 q1 q2], fun j hj => by rw [a2 _ (by omega) (by omega), fr56 j hj]⟩
  have head : F_Mo_laysCourse m (nI pl) (nI k) (nI code) = Option.bind (FL_Mo_laysCourse_49 qFU m0 (nI k) (nI code) (nI (8 ^ (k - 1))) (nI 1)) (fun o12 => match o12 with
      | .inl (v0, v1) => some (v0, v1)
      | .inr m10 => some (1, m10)) := by
    unfold F_Mo_laysCourse
    rw [nI_1, ← hm0, show FL_Mo_laysCourse_27 qFU m0 (nI k) (nI code) 1 1 = _ from u, Option.bind_some]
    rfl
  rw [head]
  cases hl : lay l code k 1 (fun _ => pl) with
  | none =>
    rw [hl] at a1
    dsimp only at a1 ⊢
    rw [a1]
    rfl
  | some c' =>
    rw [hl] at a1
    dsimp only at a1 ⊢
    obtain ⟨a1, a3, a4⟩ := a1
    rw [a1]
    refine ⟨rfl, hk, lm0.of (a2 _ (by omega) (by omega)) (a2 _ (by omega) (by omega)), by omega, by rw [a2 _ (by omega) (by omega)]; exact e17, a3, a4, fun i j hij _ => mt_le l c' hij, fun i hi => ?_⟩
    have := mt_bd hk (c := c') i (by omega) (fun j hj => a4 j (by omega))
    omega
theorem worst105 {c : Nat → Nat} {k : Nat} (hk : k ≤ 4) (x1 x3 x4 x5 x7 : Int32) {m : Nat → Nat → Int32} (h65 : ∀ i, i < k + 1 → m 65 i = nI (c i)) : ∀ d i fu, i + d = k + 1 → d < fu → FL_Mo_worst_105 fu m x1 (nI k) x3 x4 x5 (nI (fg c i)) x7 (nI i) = some (nI (fg c (k + 1))) := by
  intro d
  induction d with
  | zero =>
    intro i fu e1 e2
    obtain ⟨fu, rfl⟩ : ∃ f, fu = f + 1 := ⟨fu - 1, by omega⟩
    rw [FL_Mo_worst_105, if_pos (nI_lt (by omega) (by omega)), show i = k + 1 by omega]
  | succ d ih =>
    intro i fu e1 e2
    obtain ⟨fu, rfl⟩ : ∃ f, fu = f + 1 := ⟨fu - 1, by omega⟩
    rw [FL_Mo_worst_105, if_neg (nI_nlt (by omega) (by omega)), q_in_nI (j := i) (by omega) (by omega), nI_clamp (n := i) (by omega), h65 i (by omega), cond_true, nI_1, i_10, pk_mul, nI_add, nI_1, Nat.mul_comm 10]
    exact ih (i + 1) fu (by omega) (by omega)
theorem worst64 {l : aL} (hk : aLok l) {k pl : Nat} (hk4 : k ≤ 4) (hp : pl < lP l) (x3 : Int32) : ∀ (e code fu : Nat) (m : Nat → Nat → Int32) (st : Option (Nat × Nat)) (x5 x6 : Int32), code + e = 8 ^ k → e < fu → LMo l m → stI st x5 x6 → ∃ y17 y18 m', FL_Mo_worst_64 fu m (nI pl) (nI k) x3 (nI (8 ^ k)) x5 x6 (nI code) = some (y17, y18, m') ∧ stI (fo (wr l (k + 1) k 1 (fun _ => pl)) e code st) y17 y18 ∧ (∀ q, q ≠ 56 → q < 65 → m' q = m q) ∧ ∀ j, j < 17 → m' 56 j = m 56 j := by
  have pw := pw8 k (by omega)
  have hfu := qFU_big
  intro e
  induction e with
  | zero =>
    intro code fu m st x5 x6 e1 e2 hm hs
    obtain ⟨fu, rfl⟩ : ∃ f, fu = f + 1 := ⟨fu - 1, by omega⟩
    rw [FL_Mo_worst_64, if_pos (nI_le (by omega) (by omega))]
    exact ⟨x5, x6, m, rfl, hs, fun _ _ _ => rfl, fun _ _ => rfl⟩
  | succ e ih =>
    intro code fu m st x5 x6 e1 e2 hm hs
    obtain ⟨fu, rfl⟩ : ∃ f, fu = f + 1 := ⟨fu - 1, by omega⟩
    obtain ⟨m1, a1, a2, a3⟩ := laysCourse_ok hk hk4 (show code < 2 ^ 20 by omega) hp hm
    have lm1 : LMo l m1 := hm.of (a2 _ (by omega) (by omega) (by omega)) (a2 _ (by omega) (by omega) (by omega))
    rw [FL_Mo_worst_64, if_neg (nI_ge (by omega) (by omega)), nI_1, fo]
    cases hl : lay l code k 1 (fun _ => pl) with
    | none =>
      rw [hl] at a1
      dsimp only at a1
      have ew : wr l (k + 1) k 1 (fun _ => pl) code st = st := by unfold wr; rw [hl]
      rw [a1, Option.bind_some, ew]
      dsimp only
      rw [if_pos rfl]
      obtain ⟨y17, y18, m', b1, b2, b3, b4⟩ := ih (code + 1) fu m1 st x5 x6 (by omega) (by omega) lm1 hs
      exact ⟨y17, y18, m', b1, b2, fun q q1 q2 => by rw [b3 q q1 q2, a2 q q1 (by omega) (by omega)], fun j hj => by rw [b4 j hj, a3 j (by omega)]⟩
    | some c' =>
      rw [hl] at a1
      dsimp only at a1
      obtain ⟨a1, hI⟩ := a1
      have ew : wr l (k + 1) k 1 (fun _ => pl) code st = wgh l (k + 1) c' st := by unfold wr; rw [hl]
      obtain ⟨w', hF⟩ := fwn_ok (can (lW l) (lS l) c' (mt l c')) (k + 1)
      have hle := hF.2.1
      obtain ⟨m2, b1, b2, b3⟩ := fewestMo_ok hF hI
      have lm2 : LMo l m2 := lm1.of (b3 _ (by omega)) (b3 _ (by omega))
      have fr2 : ∀ q, q ≠ 56 → q < 65 → m2 q = m q := fun q q1 q2 => by rw [b3 q (by omega), a2 q q1 (by omega) (by omega)]
      have fr3 : ∀ j, j < 17 → m2 56 j = m 56 j := fun j hj => by rw [b3 _ (by omega), a3 j (by omega)]
      have f105 := worst105 hk4 (nI pl) x3 (nI (8 ^ k)) (nI (fwn (can (lW l) (lS l) c' (mt l c')) (k + 1))) (nI code) (m := m2) (c := c') (fun i hi => by rw [b3 _ (by omega)]; exact (hI.2.2.2.2.1 i hi).1) (k + 1) 0 qFU (by omega) (by omega)
      rw [a1, Option.bind_some, ew]
      dsimp only
      rw [if_neg ne1, b1, Option.bind_some]
      dsimp only
      have take : ¬ nI (fwn (can (lW l) (lS l) c' (mt l c')) (k + 1)) ≤ x5 → wgh l (k + 1) c' st = some (fwn (can (lW l) (lS l) c' (mt l c')) (k + 1), fg c' (k + 1)) → ∃ y17 y18 m', (if nI (fwn (can (lW l) (lS l) c' (mt l c')) (k + 1)) ≤ x5 then FL_Mo_worst_64 fu m2 (nI pl) (nI k) x3 (nI (8 ^ k)) x5 x6 (nI (code + 1)) else Option.bind (FL_Mo_worst_105 qFU m2 (nI pl) (nI k) x3 (nI (8 ^ k)) (nI (fwn (can (lW l) (lS l) c' (mt l c')) (k + 1))) 0 (nI code) 0) fun y10 => FL_Mo_worst_64 fu m2 (nI pl) (nI k) x3 (nI (8 ^ k)) (nI (fwn (can (lW l) (lS l) c' (mt l c')) (k + 1))) y10 (nI (code + 1))) = some (y17, y18, m') ∧ stI (fo (wr l (k + 1) k 1 (fun _ => pl)) e (code + 1) (wgh l (k + 1) c' st)) y17 y18 ∧ (∀ q, q ≠ 56 → q < 65 → m' q = m q) ∧ ∀ j, j < 17 → m' 56 j = m 56 j := by
        intro g1 g2
        rw [g2, if_neg g1, show FL_Mo_worst_105 qFU m2 (nI pl) (nI k) x3 (nI (8 ^ k)) (nI (fwn (can (lW l) (lS l) c' (mt l c')) (k + 1))) 0 (nI code) 0 = _ from f105, Option.bind_some]
        obtain ⟨y17, y18, m', c1, c2, c3, c4⟩ := ih (code + 1) fu m2 (some (fwn (can (lW l) (lS l) c' (mt l c')) (k + 1), fg c' (k + 1))) _ _ (by omega) (by omega) lm2 ⟨rfl, rfl, by omega⟩
        exact ⟨y17, y18, m', c1, c2, fun q q1 q2 => by rw [c3 q q1 q2, fr2 q q1 q2], fun j hj => by rw [c4 j hj, fr3 j hj]⟩
      cases st with
      | none =>
        obtain ⟨h1, h2⟩ := hs
        exact take (by rw [h1]; exact nI_nle9 (by omega)) rfl
      | some ab =>
        obtain ⟨a, b⟩ := ab
        obtain ⟨h1, h2, h3⟩ := hs
        by_cases g : a < fwn (can (lW l) (lS l) c' (mt l c')) (k + 1)
        · exact take (by rw [h1]; exact nI_ge g (by omega)) (by unfold wgh; dsimp only; rw [if_pos g])
        · have g2 : wgh l (k + 1) c' (some (a, b)) = some (a, b) := by unfold wgh; dsimp only; rw [if_neg g]
          rw [g2, if_pos (by rw [h1]; exact nI_le (by omega) (by omega))]
          obtain ⟨y17, y18, m', c1, c2, c3, c4⟩ := ih (code + 1) fu m2 (some (a, b)) x5 x6 (by omega) (by omega) lm2 ⟨h1, h2, h3⟩
          exact ⟨y17, y18, m', c1, c2, fun q q1 q2 => by rw [c3 q q1 q2, fr2 q q1 q2], fun j hj => by rw [c4 j hj, fr3 j hj]⟩
theorem stI_eq {st : Option (Nat × Nat)} {p q p' q' : Int32} (h : stI st p q) (h' : stI st p' q') : p = p' ∧ q = q' := by
  cases st with
  | none => exact ⟨h.1.trans h'.1.symm, h.2.trans h'.2.symm⟩
  | some ab =>
    obtain ⟨a, b⟩ := ab
    exact ⟨h.1.trans h'.1.symm, h.2.1.trans h'.2.1.symm⟩
theorem E_worst {m n : Nat → Nat → Int32} (h : rR m n) (a b w : Int32) : ∃ r m' n', F_AT_worst m a b w = some (r, m') ∧ F_Mo_worst n a b w = some (r, n') ∧ rR m' n' := by
  have hR := h
  obtain ⟨l, x, hz, hs, y1, y2, len, tx, ht, hl, hx, hr, hh, hi1, hi2⟩ := h
  have hk := hl.1
  have p8 := hk.1.2
  have hP : lP l < 2 ^ 30 := by omega
  have hfu := qFU_big
  unfold F_AT_worst F_Mo_worst
  rcases ix a (lP l) hP with h | ⟨pl, hp, rfl⟩
  · rw [hasPlace_bad hl.2.1.1 hP h, isPlace_bad hl.2.2.1 hP h]
    exact ⟨_, _, _, rfl, rfl, hR⟩
  · rw [hasPlace_ok hl.2.1.1 hP hp, isPlace_ok hl.2.2.1 hP hp, Option.bind_some, Option.bind_some, if_neg ne1, if_neg ne1]
    rcases in_lit b 0 4 (by decide) (by decide) with ⟨h1, h2⟩ | ⟨h1, k, h2, h3, rfl⟩
    · have h1 : F_Mo_in b 0 4 = some 0 := h1
      rw [h1, Option.bind_some, if_pos rfl]
      refine ⟨Int32.ofInt (-1), m, n, ?_, rfl, hR⟩
      by_cases z1 : b < 0
      · rw [if_pos z1]
      · have z2 : 4 < b := by
          apply Classical.byContradiction
          intro z2
          exact h2 ⟨Int32.not_lt.mp z1, Int32.not_lt.mp z2⟩
        rw [if_neg z1, if_pos z2]
    · have h1 : F_Mo_in (nI k) 0 4 = some 1 := h1
      have g4 : ¬ (4 : Int32) < nI k := (nI_nlt (by omega) (by omega) : ¬ nI 4 < nI k)
      rw [h1, Option.bind_some, if_neg ne1, if_neg (show ¬ nI k < 0 from nI_pos (by omega)), if_neg g4]
      rcases in_lit w 0 1 (by decide) (by decide) with ⟨i1, i2⟩ | ⟨i1, j, i2, i3, rfl⟩
      · have i1 : F_Mo_in w 0 1 = some 0 := i1
        rw [i1, Option.bind_some, if_pos rfl]
        refine ⟨Int32.ofInt (-1), m, n, ?_, rfl, hR⟩
        by_cases z1 : w < 0
        · rw [if_pos z1]
        · rw [if_neg z1, if_neg (show ¬ w ≤ 1 from fun z2 => i2 ⟨Int32.not_lt.mp z1, z2⟩)]
      · have i1 : F_Mo_in (nI j) 0 1 = some 1 := i1
        have g1 : nI j ≤ 1 := (nI_le (by omega) (by omega) : nI j ≤ nI 1)
        rw [i1, Option.bind_some, if_neg ne1, if_neg (show ¬ nI j < 0 from nI_pos (by omega)), if_pos g1]
        have pw := pw8 k (by omega)
        -- the class
        obtain ⟨m0, hm0⟩ : ∃ m0, m0 = q_w (q_w (q_w m 45 0 (Int32.ofInt (-9))) 45 1 (Int32.ofInt (-9))) 46 0 0 := ⟨_, rfl⟩
        have fr0 : ∀ q, q < 45 ∨ 46 < q → m0 q = m q := fun q hq => by rw [hm0, q_w_row _ _ _ (by omega), q_w_row _ _ _ (by omega), q_w_row _ _ _ (by omega)]
        have hc0 : LCl l m0 := hl.2.1.of (fun q a b => fr0 q (by omega))
        have st0 := stepTo_ok_46 hk hc0 (s := 0) (by omega) (c := fun _ => pl) (t := mt l (fun _ => pl)) (by rw [hm0, q_w_same]; rfl) (fun i hi => absurd hi (by omega)) (fun i hi => hp) (fun i hi => mt_le l _ hi) (show 0 < 2 ^ 20 by omega) 0 (by rw [if_pos rfl]; rfl)
        obtain ⟨m1, hm1⟩ : ∃ m1, m1 = q_w (q_w (q_w (q_w m0 47 0 (nI pl)) 48 0 (nI (mt l (fun _ => pl) 0))) 49 0 (nI (rb (fun j => can (lW l) (lS l) (fun _ => pl) (mt l (fun _ => pl)) j 0) 0))) 46 0 (nI (0 + 1)) := ⟨_, rfl⟩
        have fr1 : ∀ q, q < 45 ∨ 49 < q → m1 q = m q := fun q hq => by rw [hm1, q_w_row _ _ _ (by omega), q_w_row _ _ _ (by omega), q_w_row _ _ _ (by omega), q_w_row _ _ _ (by omega), fr0 q (by omega)]
        have w1 : wkI l 1 (fun _ => pl) m1 := by
          refine ⟨by rw [hm1, q_w_same], fun i hi => ?_⟩
          obtain rfl : i = 0 := by omega
          rw [hm1, q_w_row _ _ _ (show 47 ≠ 46 by omega), q_w_row _ _ _ (show 48 ≠ 46 by omega), q_w_row _ _ _ (show 49 ≠ 46 by omega), q_w_row _ _ _ (show 47 ≠ 49 by omega), q_w_row _ _ _ (show 48 ≠ 49 by omega), q_w_row _ _ _ (show 47 ≠ 48 by omega), q_w_same, q_w_same, q_w_same]
          exact ⟨rfl, rfl, rfl⟩
        have s1 : stI none (m1 45 0) (m1 45 1) := by
          have e45 : m1 45 = m0 45 := by rw [hm1, q_w_row _ _ _ (by omega), q_w_row _ _ _ (by omega), q_w_row _ _ _ (by omega), q_w_row _ _ _ (by omega)]
          rw [e45, hm0]
          exact ⟨by rw [q_w_row _ _ _ (by omega), q_w_ne _ _ (by omega), q_w_same], by rw [q_w_row _ _ _ (by omega), q_w_same]⟩
        obtain ⟨m2, t1, t2, t3, t4⟩ := tryAll_ok hk (K := k + 1) (by omega) k 1 20 m1 (fun _ => pl) none (by omega) (by omega) (by omega) (hl.2.1.of (fun q a b => fr1 q (by omega))) (fun i hi => hp) w1 s1
        have lf : F_Wo_lookFrom_45_9 m (nI pl) (nI k) = some m2 := by
          unfold F_Wo_lookFrom_45_9
          rw [← hm0, show F_Ru_stepTo_46_9 m0 (nI pl) 0 = _ from st0, Option.bind_some, ← hm1, t1]
          rfl
        -- the reference
        have u34 := w34_loop n (nI pl) (nI j) h3 k 0 qFU 0 (by omega) (by omega)
        rw [Nat.zero_add] at u34
        obtain ⟨y17, y18, n2, v1, v2, v3, v4⟩ := worst64 hk h3 hp (nI j) (8 ^ k) 0 qFU n none (Int32.ofInt (-9)) (Int32.ofInt (-9)) (by omega) (by omega) hl.2.2 ⟨rfl, rfl⟩
        have wd := wr_dfs l p8 (k + 1) k 1 (fun _ => pl) 0 none
        rw [Nat.zero_mul] at wd
        rw [wd] at v2
        obtain ⟨q1, q2⟩ := stI_eq t3 v2
        have R2 : rR m2 n2 := rR_fr hR (fun q hq => by rw [t4 q (by omega), fr1 q (by omega)]) (fun q h1 h2 => v3 q h1 h2) (fun q hq => v4 q hq)
        rw [lf, Option.bind_some, show FL_Mo_worst_34 qFU n (nI pl) (nI k) (nI j) 1 0 = _ from u34, Option.bind_some, show FL_Mo_worst_64 qFU n (nI pl) (nI k) (nI j) (nI (8 ^ k)) (Int32.ofInt (-9)) (Int32.ofInt (-9)) 0 = _ from v1, Option.bind_some]
        dsimp only
        rw [q1, q2]
        by_cases z : nI j = 0
        · rw [if_pos z, if_pos z]
          exact ⟨_, m2, n2, rfl, rfl, R2⟩
        · rw [if_neg z, if_neg z]
          exact ⟨_, m2, n2, rfl, rfl, R2⟩
