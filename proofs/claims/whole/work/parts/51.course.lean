/-! the text: the course -/
def fcC (m m' : Nat → Nat → Int32) : Prop := (∀ k, k ≠ 1 → k ≠ 3 → k ≠ 8 → m' k = m k) ∧ (∀ j, j ≠ 2 → m' 3 j = m 3 j) ∧ ∀ j, (j < 5 ∨ 5 < j) → m' 1 j = m 1 j
def fcM (n n' : Nat → Nat → Int32) : Prop := (∀ k, k ≠ 56 → k ≠ 59 → n' k = n k) ∧ (∀ j, (j < 13 ∨ 21 ≤ j) → n' 59 j = n 59 j) ∧ ∀ j, (j < 11 ∨ 14 < j) → n' 56 j = n 56 j
theorem fcC.rf (m : Nat → Nat → Int32) : fcC m m := ⟨fun _ _ _ _ => rfl, fun _ _ => rfl, fun _ _ => rfl⟩
theorem fcM.rf (m : Nat → Nat → Int32) : fcM m m := ⟨fun _ _ _ => rfl, fun _ _ => rfl, fun _ _ => rfl⟩
theorem fcC.tr {a b c : Nat → Nat → Int32} (h1 : fcC a b) (h2 : fcC b c) : fcC a c := ⟨fun k k1 k2 k3 => (h2.1 k k1 k2 k3).trans (h1.1 k k1 k2 k3), fun j hj => (h2.2.1 j hj).trans (h1.2.1 j hj), fun j hj => (h2.2.2 j hj).trans (h1.2.2 j hj)⟩
theorem fcM.tr {a b c : Nat → Nat → Int32} (h1 : fcM a b) (h2 : fcM b c) : fcM a c := ⟨fun k k1 k2 => (h2.1 k k1 k2).trans (h1.1 k k1 k2), fun j hj => (h2.2.1 j hj).trans (h1.2.1 j hj), fun j hj => (h2.2.2 j hj).trans (h1.2.2 j hj)⟩
theorem frC.c {m m' : Nat → Nat → Int32} (h : frC m m') : fcC m m' := ⟨fun k k1 _ _ => h.1 k k1, fun j _ => by rw [h.1 _ (by omega)], h.2⟩
theorem frM.c {n n' : Nat → Nat → Int32} (h : frM n n') : fcM n n' := ⟨fun k k1 _ => h.1 k k1, fun j _ => by rw [h.1 _ (by omega)], h.2⟩
theorem fcC.d {m m' : Nat → Nat → Int32} (h : fcC m m') : frCd m m' := ⟨fun k k1 k3 _ _ _ k8 => h.1 k k1 k3 k8, fun j hj => h.2.2 j (by omega)⟩
theorem fcM.d {n n' : Nat → Nat → Int32} (h : fcM n n') : frMd n n' := ⟨h.1, h.2.2⟩
theorem place_no {tx : Nat → Nat} {len b e : Nat} {m n : Nat → Nat → Int32} (h : tRl len tx m n b e) {P : Nat} (h8 : P ≤ 8) (hm : m 3 0 = nI P) (h0 : F_Mo_isNumber n 0 (nI P - 1) = some 0) : F_La_hasPlace_3 m (m 70 (m 1 5).toNatClampNeg - 258) = some 0 := by
  rcases h.2.2.2.2.2.2 with ⟨h1, h2⟩ | ⟨_, ⟨v, hv, h1, h2, h14⟩ | ⟨h1, h2, h14⟩ | ⟨c, hc, h1, _, h2⟩⟩
  · rw [h1]
    exact g_bad hm (by omega) (Or.inl (by decide))
  · rw [h1, tok_num hv]
    refine g_bad hm (by omega) (Or.inr (nI_le ?_ (by omega)))
    apply Classical.byContradiction
    intro z
    unfold F_Mo_isNumber at h0
    rw [if_pos h2, h14, in_ok (by omega) (by omega), Option.bind_some, if_neg ne1] at h0
    exact absurd (Option.some.inj h0) (by decide)
  · rw [h1]
    exact g_bad hm (by omega) (Or.inl (by decide))
  · rw [h1]
    exact g_bad hm (by omega) (Or.inl (tok_neg c (by omega)))
theorem crs_loop {len : Nat} {tx : Nat → Nat} {P : Nat} {F : Nat → Nat} (h2 : 2 ≤ P) (h8 : P ≤ 8) (hF : ∀ k, k < 64 → F k ≤ 9) : ∀ (d p fu fv : Nat) (m n : Nat → Nat → Int32) (C : Nat → Nat) (b e : Nat), p + 1 + d = 8 → d + 1 < fu → d < fv → rText len tx m n → tRl len tx m n b e → m 3 0 = nI P → n 59 0 = nI P → (∀ k, k < 64 → m 4 k = nI (F k)) → (∀ k, k < 64 → n 59 (21 + k) = nI (F k)) → (∀ j, j < p → m 8 j = nI (C j)) → (∀ j, j < p + 1 → n 59 (13 + j) = nI (C j)) → (∀ j, j < p + 1 → C j < P) → ∃ m' n', fcC m m' ∧ fcM n n' ∧ ((((FL_Re_readCourse_1_7 fu m (nI (C p)) (nI p) = some (.inl (1, m')) ∧ ¬ m' 70 (m' 1 5).toNatClampNeg = 59) ∨ FL_Re_readCourse_1_7 fu m (nI (C p)) (nI p) = some (.inr m')) ∧ (FL_Mo_readsCourse_6 fv n (nI (p + 1)) = some (.inl (0, n')) ∨ ∃ q, FL_Mo_readsCourse_6 fv n (nI (p + 1)) = some (.inr (q, n')) ∧ ¬ n' 56 12 = 3) ∧ ∃ s, s ≤ 200 ∧ fpl m' s ∧ n' 56 13 = nI s) ∨ (FL_Re_readCourse_1_7 fu m (nI (C p)) (nI p) = some (.inl (1, m')) ∧ ∃ (i' : Nat) (C' : Nat → Nat) (b' e' : Nat), FL_Mo_readsCourse_6 fv n (nI (p + 1)) = some (.inr (nI i', n')) ∧ i' ≤ 8 ∧ m' 3 2 = nI i' ∧ (∀ j, j < i' → m' 8 j = nI (C' j) ∧ n' 59 (13 + j) = nI (C' j) ∧ C' j < P) ∧ b ≤ b' ∧ tRl len tx m' n' b' e')) := by
  intro d
  induction d with
  | zero =>
    intro p fu fv m n C b e e1 e2 e3 ht hr hm hn hm4 hn4 hm8 hn8 hC
    obtain ⟨fu, rfl⟩ : ∃ f, fu = f + 1 := ⟨fu - 1, by omega⟩
    obtain ⟨fv, rfl⟩ : ∃ f, fv = f + 1 := ⟨fv - 1, by omega⟩
    have cp := hC p (by omega)
    have g8 : ¬ (8 : Int32) ≤ nI p := (nI_ge (by omega) (by omega) : ¬ nI 8 ≤ nI p)
    have l2 := ht.2.2.1
    have bs : b ≤ 200 := by
      have h5 := hr.2.2.2.2.1
      have h6 := hr.2.2.2.2.2.1
      omega
    obtain ⟨M, hM⟩ : ∃ M, M = q_w (q_w m 8 p (nI (C p))) 3 2 (nI (p + 1)) := ⟨_, rfl⟩
    have fM : fcC m M := by
      rw [hM]
      exact ⟨fun k k1 k3 k8 => by rw [q_w_row _ _ _ k3, q_w_row _ _ _ k8], fun j hj => by rw [q_w_ne _ _ (by omega), q_w_row _ _ _ (by omega)], fun j _ => by rw [q_w_row _ _ _ (by omega), q_w_row _ _ _ (by omega)]⟩
    have M1 : M 1 = m 1 := by rw [hM, q_w_row _ _ _ (by omega), q_w_row _ _ _ (by omega)]
    have M70 : M 70 = m 70 := fM.1 70 (by omega) (by omega) (by omega)
    have hrM : tRl len tx M n b e := hr.of (by rw [M1]) M70 (fM.1 71 (by omega) (by omega) (by omega)) rfl
    have rows : ∀ j, j < p + 1 → M 8 j = nI (C j) := fun j hj => by
      rw [hM, q_w_row _ _ _ (by omega)]
      by_cases z : j = p
      · rw [z, q_w_same]
      · rw [q_w_ne _ _ (by omega)]
        exact hm8 j (by omega)
    refine ⟨M, n, fM, fcM.rf _, ?_⟩
    rw [FL_Re_readCourse_1_7, if_neg g8, if_neg (nI_neg9 (by omega)), q_in_nI (by omega) (by omega), nI_clamp (by omega), nI_1, ← hM, cond_true, hr.1.q, cond_true, FL_Mo_readsCourse_6, if_neg (nI_ne0 (by omega) (by omega))]
    by_cases z : m 70 (m 1 5).toNatClampNeg = 59
    · right
      have z3 := (tRl_stop hr).mp z
      rw [if_pos z, z3, if_neg (by decide)]
      exact ⟨rfl, p + 1, C, b, e, rfl, by omega, by rw [hM, q_w_same], fun j hj => ⟨rows j hj, hn8 j hj, hC j hj⟩, by omega, hrM⟩
    · left
      have p7 : p = 7 := by omega
      have e8 : nI (p + 1) = 8 := by rw [p7]; rfl
      rw [if_neg z, if_pos e8, if_pos e8]
      refine ⟨Or.inl ⟨rfl, by rw [M1, M70]; exact z⟩, ?_, b, bs, hrM.1, hrM.2.2.2.1⟩
      by_cases y : n 56 12 = 2
      · rw [if_pos y]
        exact Or.inl rfl
      · rw [if_neg y]
        exact Or.inr ⟨_, rfl, fun w => z ((tRl_stop hr).mpr w)⟩
  | succ d ih =>
    intro p fu fv m n C b e e1 e2 e3 ht hr hm hn hm4 hn4 hm8 hn8 hC
    obtain ⟨fu, rfl⟩ : ∃ f, fu = f + 1 := ⟨fu - 1, by omega⟩
    obtain ⟨fv, rfl⟩ : ∃ f, fv = f + 1 := ⟨fv - 1, by omega⟩
    have cp := hC p (by omega)
    have g8 : ¬ (8 : Int32) ≤ nI p := (nI_ge (by omega) (by omega) : ¬ nI 8 ≤ nI p)
    have l2 := ht.2.2.1
    have bs : b ≤ 200 := by
      have h5 := hr.2.2.2.2.1
      have h6 := hr.2.2.2.2.2.1
      omega
    obtain ⟨M, hM⟩ : ∃ M, M = q_w (q_w m 8 p (nI (C p))) 3 2 (nI (p + 1)) := ⟨_, rfl⟩
    have fM : fcC m M := by
      rw [hM]
      exact ⟨fun k k1 k3 k8 => by rw [q_w_row _ _ _ k3, q_w_row _ _ _ k8], fun j hj => by rw [q_w_ne _ _ (by omega), q_w_row _ _ _ (by omega)], fun j _ => by rw [q_w_row _ _ _ (by omega), q_w_row _ _ _ (by omega)]⟩
    have M1 : M 1 = m 1 := by rw [hM, q_w_row _ _ _ (by omega), q_w_row _ _ _ (by omega)]
    have M70 : M 70 = m 70 := fM.1 70 (by omega) (by omega) (by omega)
    have hrM : tRl len tx M n b e := hr.of (by rw [M1]) M70 (fM.1 71 (by omega) (by omega) (by omega)) rfl
    have htM : rText len tx M n := ht.frd fM.d (frMd.rf _)
    have rows : ∀ j, j < p + 1 → M 8 j = nI (C j) := fun j hj => by
      rw [hM, q_w_row _ _ _ (by omega)]
      by_cases z : j = p
      · rw [z, q_w_same]
      · rw [q_w_ne _ _ (by omega)]
        exact hm8 j (by omega)
    have e8 : ¬ nI (p + 1) = 8 := fun z => by
      have := (nI_eq (b := 8) (by omega) (by omega)).mp z
      omega
    have M30 : M 3 0 = nI P := by rw [fM.2.1 0 (by omega)]; exact hm
    have M4 : M 4 = m 4 := fM.1 4 (by omega) (by omega) (by omega)
    have e13 : 13 + nI (p + 1) - 1 = nI (13 + p) := by rw [i_13, nI_add, show 13 + (p + 1) = 13 + p + 1 by omega, nI_pred]
    rw [FL_Re_readCourse_1_7, if_neg g8, if_neg (nI_neg9 (by omega)), q_in_nI (j := p) (by omega) (by omega), nI_clamp (n := p) (by omega), nI_1, ← hM, cond_true, hr.1.q, cond_true, FL_Mo_readsCourse_6, if_neg (nI_ne0 (by omega) (by omega))]
    by_cases z : m 70 (m 1 5).toNatClampNeg = 59
    · have z3 := (tRl_stop hr).mp z
      rw [if_pos z, z3, if_neg (by decide)]
      exact ⟨M, n, fM, fcM.rf _, Or.inr ⟨rfl, p + 1, C, b, e, rfl, by omega, by rw [hM, q_w_same], fun j hj => ⟨rows j hj, hn8 j hj, hC j hj⟩, by omega, hrM⟩⟩
    · rw [if_neg z, if_neg e8, if_neg e8, hn]
      have stopd : FL_Re_readCourse_1_7 fu M (Int32.ofInt (-9)) (nI (p + 1)) = some (.inr M) := by
        obtain ⟨fu, rfl⟩ : ∃ f, fu = f + 1 := ⟨fu - 1, by omega⟩
        rw [FL_Re_readCourse_1_7]
        split
        · rfl
        · rw [if_pos rfl]
      rcases place_ok hrM h2 h8 M30 with ⟨v, p1, p2, p3, p4, p5, p6, p7⟩ | ⟨p1, p2⟩
      · have kf := hm4 (8 * C p + v) (by omega)
        have f9 := hF (8 * C p + v) (by omega)
        have hp : F_La_hasPlace_3 M (nI v) = some 1 := g_ok M30 (by omega) p1
        have fb : F_La_furrowBetween_3 M (nI (C p)) (nI v) = some (nI (F (8 * C p + v))) := by
          unfold F_La_furrowBetween_3
          rw [pair_nI, Option.bind_some, q_in_nI (by omega) (by omega), nI_clamp (by omega), M4, kf]
          rfl
        have nf := hn4 (8 * C p + v) (by omega)
        have c13 := hn8 p (by omega)
        rw [if_pos p4, p6, Option.bind_some, if_neg ne1, if_neg (nI_nle (by omega) (by omega)), e13, q_in_nI (j := 13 + p) (by omega) (by omega), nI_clamp (n := 13 + p) (by omega), c13, cond_true, p5, i_21, i_8, pk_mul, nI_add, nI_add, show 21 + 8 * C p + v = 21 + (8 * C p + v) by omega, q_in_nI (j := 21 + (8 * C p + v)) (by omega) (by omega), nI_clamp (n := 21 + (8 * C p + v)) (by omega), nf, cond_true]
        by_cases y : F (8 * C p + v) = 0
        · have tb : F_Re_takePlaceBeyondFurrow_1 M (nI (C p)) = some (Int32.ofInt (-9), M) := by
            unfold F_Re_takePlaceBeyondFurrow_1
            rw [hrM.1.q, cond_true, p2, tok_num (by omega), hp, Option.bind_some, if_neg ne1, fb, Option.bind_some, y, if_pos (show nI 0 = 0 from rfl)]
          rw [tb, Option.bind_some, y, if_pos (show nI 0 = 0 from rfl)]
          exact ⟨M, n, fM, fcM.rf _, Or.inl ⟨Or.inr stopd, Or.inl rfl, b, bs, hrM.1, hrM.2.2.2.1⟩⟩
        · obtain ⟨m2, n2, b2, e2', a1, a2, a3, a4, a5, a6⟩ := next_ok (nw := q_w n 59 (13 + (p + 1)) (nI v)) htM hrM p3 (q_w_row _ _ _ (by omega)) (q_w_row _ _ _ (by omega))
          have tb : F_Re_takePlaceBeyondFurrow_1 M (nI (C p)) = some (nI v, m2) := by
            unfold F_Re_takePlaceBeyondFurrow_1
            rw [hrM.1.q, cond_true, p2, tok_num (by omega), hp, Option.bind_some, if_neg ne1, fb, Option.bind_some, if_neg (nI_ne0 (by omega) (by omega))]
            exact p7 m2 a1
          have be := hr.2.2.2.2.1
          have fW : fcM n (q_w n 59 (13 + (p + 1)) (nI v)) := ⟨fun k _ k2 => q_w_row _ _ _ k2, fun j hj => q_w_ne _ _ (by omega), fun j _ => q_w_ne _ _ (by omega)⟩
          have ht2 : rText len tx m2 n2 := htM.frd a3.d (fW.d.tr a4.d)
          rw [tb, Option.bind_some, if_neg (nI_ne0 (by omega) (by omega)), i_13, nI_add, q_in_nI (j := 13 + (p + 1)) (by omega) (by omega), nI_clamp (n := 13 + (p + 1)) (by omega), cond_true, a2, Option.bind_some, nI_1]
          dsimp only
          have fm2 : fcC m m2 := fM.tr a3.c
          have fn2 : fcM n n2 := fW.tr a4.c
          have I := ih (p + 1) fu fv m2 n2 (up1 C (p + 1) v) b2 e2' (by omega) (by omega) (by omega) ht2 a6 (by rw [fm2.2.1 0 (by omega)]; exact hm) (by rw [fn2.2.1 0 (by omega)]; exact hn) (fun k hk => by rw [fm2.1 4 (by omega) (by omega) (by omega)]; exact hm4 k hk) (fun k hk => by rw [fn2.2.1 _ (by omega)]; exact hn4 k hk) (fun j hj => by rw [a3.1 8 (by omega), up1_ne _ _ (by omega)]; exact rows j hj) (fun j hj => by
            rw [a4.1 59 (by omega)]
            by_cases w : j = p + 1
            · rw [w, up1_same, q_w_same]
            · rw [up1_ne _ _ w, q_w_ne _ _ (by omega)]
              exact hn8 j (by omega)) (fun j hj => by
            by_cases w : j = p + 1
            · rw [w, up1_same]
              exact p1
            · rw [up1_ne _ _ w]
              exact hC j (by omega))
          rw [up1_same] at I
          obtain ⟨m', n', i1, i2, i3⟩ := I
          refine ⟨m', n', fm2.tr i1, fn2.tr i2, ?_⟩
          rcases i3 with i3 | ⟨i3, i', C', b', e', i4, i5, i6, i7, i8, i9⟩
          · exact Or.inl i3
          · exact Or.inr ⟨i3, i', C', b', e', i4, i5, i6, i7, by omega, i9⟩
      · have tb : F_Re_takePlaceBeyondFurrow_1 M (nI (C p)) = some (Int32.ofInt (-9), M) := by
          unfold F_Re_takePlaceBeyondFurrow_1
          rw [hrM.1.q, cond_true, place_no hrM h8 M30 p1, Option.bind_some, if_pos rfl]
          exact p2
        rw [tb, Option.bind_some]
        refine ⟨M, n, fM, fcM.rf _, Or.inl ⟨Or.inr stopd, ?_, b, bs, hrM.1, hrM.2.2.2.1⟩⟩
        by_cases y : n 56 12 = 2
        · rw [if_pos y, p1]
          exact Or.inl rfl
        · rw [if_neg y]
          exact Or.inr ⟨_, rfl, fun w => z ((tRl_stop hr).mpr w)⟩
def sC (l : aL) (k : Nat) (C : Nat → Nat) : aL := ((lP l, lH l, k, lS l, lT l, lR l), lF l, lV l, lM l, C, lW l)
theorem body_c {len : Nat} {tx : Nat → Nat} {it b : Nat} {m n m1 n0 n1 : Nat → Nat → Int32} {b1 e1 : Nat} {l : aL} (ht : rText len tx m1 n1) (hr : tRl len tx m1 n1 b1 e1) (hb : b < b1) (f1 : frCd m m1) (f2 : frMd n n1) (hn : F_Mo_token n0 = some n1) (h : dA l it m1 n1) : bOut len tx it b m n (F_Re_readBody_1 m1 99) (wrp (F_Mo_readsCourse n0)) := by
  have l2 := ht.2.2.1
  have hfu := qFU_big
  have be := hr.2.2.2.2.1
  have o := h.1
  have P8 := o.1.2
  have hc : F_Re_readBody_1 m1 99 = wqb (F_Re_readCourse_1 m1) := rfl
  rw [hc]
  refine bOut.map (rc := F_Re_readCourse_1 m1) (rm := F_Mo_readsCourse n0) ?_ (fun x hx => wqb0 hx) (fun x hx => wqb1 hx) (fun x hx => wrp0 hx) (fun x hx => wrp1 hx)
  obtain ⟨fu, hf2⟩ : ∃ fu, qFU = fu + 1 := ⟨qFU - 1, by omega⟩
  unfold F_Re_readCourse_1 F_Mo_readsCourse
  rw [hn, Option.bind_some]
  have M6 : FL_Mo_readsCourse_6 qFU n1 0 = Option.bind (F_Mo_isNumber n1 0 (nI (lP l) - 1)) (fun r3 => if r3 = 0 then some (.inl (0, n1)) else Option.bind (F_Mo_token (q_w n1 59 13 (n1 56 14))) (fun m8 => FL_Mo_readsCourse_6 fu m8 1)) := by
    rw [hf2, FL_Mo_readsCourse_6, if_pos rfl, if_neg (by decide), h.2.2.1.1]
    rfl
  rw [M6]
  rcases place_ok hr o.1.1 P8 h.2.1.1 with ⟨v, p1, p2, p3, p4, p5, p6, p7⟩ | ⟨p1, p2⟩
  · obtain ⟨m2, n2, b2, e2, a1, a2, a3, a4, a5, a6⟩ := next_ok (nw := q_w n1 59 13 (nI v)) ht hr p3 (q_w_row _ _ _ (by omega)) (q_w_row _ _ _ (by omega))
    have fW : fcM n1 (q_w n1 59 13 (nI v)) := ⟨fun k _ k2 => q_w_row _ _ _ k2, fun j hj => q_w_ne _ _ (by omega), fun j _ => q_w_ne _ _ (by omega)⟩
    have fm2 : fcC m1 m2 := a3.c
    have fn2 : fcM n1 n2 := fW.tr a4.c
    have ht2 : rText len tx m2 n2 := ht.frd fm2.d fn2.d
    rw [p7 m2 a1, Option.bind_some, p6, Option.bind_some, if_neg ne1, p5, a2, Option.bind_some]
    dsimp only
    obtain ⟨m', n', i1, i2, i3⟩ := crs_loop (len := len) (tx := tx) (F := lF l) o.1.1 P8 o.2.2.2.2.2.2.1 7 0 qFU fu m2 n2 (fun _ => v) b2 e2 (by omega) (by omega) (by omega) ht2 a6 (by rw [fm2.2.1 0 (by omega)]; exact h.2.1.1) (by rw [fn2.2.1 0 (by omega)]; exact h.2.2.1.1) (fun k hk => by rw [fm2.1 4 (by omega) (by omega) (by omega)]; exact h.2.1.2.2.2.2.2.2.1 k hk) (fun k hk => by rw [fn2.2.1 _ (by omega)]; exact h.2.2.1.2.2.2.2.2.2.2.1 k hk) (fun j hj => absurd hj (by omega)) (fun j hj => by
      obtain rfl : j = 0 := by omega
      rw [a4.1 59 (by omega), q_w_same]) (fun j hj => p1)
    have fm' : fcC m1 m' := fm2.tr i1
    have fn' : fcM n1 n' := fn2.tr i2
    rcases i3 with ⟨i3, i4, s, s1, s2, s3⟩ | ⟨i3, i', C', b', e', i4, i5, i6, i7, i8, i9⟩
    · rcases i4 with i4 | ⟨q, i4, i5⟩
      · refine ⟨m', n', f1.tr fm'.d, f2.tr fn'.d, Or.inl ⟨?_, Or.inl ?_, s, s1, s2, s3⟩⟩
        · rcases i3 with ⟨i3, i6⟩ | i3
          · exact Or.inr ⟨by rw [show FL_Re_readCourse_1_7 qFU m2 (nI v) 0 = _ from i3]; rfl, i6⟩
          · exact Or.inl (by rw [show FL_Re_readCourse_1_7 qFU m2 (nI v) 0 = _ from i3]; rfl)
        · rw [show FL_Mo_readsCourse_6 fu n2 1 = _ from i4]
          rfl
      · refine ⟨m', q_w n' 59 2 q, f1.tr fm'.d, (f2.tr fn'.d).w _ _, Or.inl ⟨?_, Or.inr ⟨?_, ?_⟩, s, s1, s2, by rw [q_w_row _ _ _ (by omega)]; exact s3⟩⟩
        · rcases i3 with ⟨i3, i6⟩ | i3
          · exact Or.inr ⟨by rw [show FL_Re_readCourse_1_7 qFU m2 (nI v) 0 = _ from i3]; rfl, i6⟩
          · exact Or.inl (by rw [show FL_Re_readCourse_1_7 qFU m2 (nI v) 0 = _ from i3]; rfl)
        · rw [show FL_Mo_readsCourse_6 fu n2 1 = _ from i4]
          rfl
        · rw [q_w_row _ _ _ (by omega)]
          exact i5
    · refine ⟨m', q_w n' 59 2 (nI i'), f1.tr fm'.d, (f2.tr fn'.d).w _ _, Or.inr ⟨?_, ?_, sC l i' C', b', e', by omega, i9.of rfl rfl rfl (q_w_row _ _ _ (by omega)), ?_⟩⟩
      · rw [show FL_Re_readCourse_1_7 qFU m2 (nI v) 0 = _ from i3]
        rfl
      · rw [show FL_Mo_readsCourse_6 fu n2 1 = _ from i4]
        rfl
      · have c := h.2.1
        have d := h.2.2.1
        refine ⟨⟨o.1, o.2.1, i5, o.2.2.2.1, o.2.2.2.2.1, o.2.2.2.2.2.1, o.2.2.2.2.2.2.1, o.2.2.2.2.2.2.2.1, o.2.2.2.2.2.2.2.2.1, fun i hi => (i7 i hi).2.2, o.2.2.2.2.2.2.2.2.2.2.1, o.2.2.2.2.2.2.2.2.2.2.2⟩, ⟨?_, ?_, i6, ?_, ?_, ?_, ?_, ?_, ?_, fun i hi => (i7 i hi).1⟩, ⟨?_, ?_, q_w_same _ _ _ _, ?_, ?_, ?_, ?_, ?_, ?_, ?_, ?_⟩, h.2.2.2.fr (fm'.2.2 6 (by omega)) (by rw [q_w_ne _ _ (by omega)]; exact fn'.2.1 7 (by omega))⟩
        · rw [fm'.2.1 _ (by omega)]; exact c.1
        · rw [fm'.2.1 _ (by omega)]; exact c.2.1
        · rw [fm'.2.1 _ (by omega)]; exact c.2.2.2.1
        · rw [fm'.2.1 _ (by omega)]; exact c.2.2.2.2.1
        · rw [fm'.2.1 _ (by omega)]; exact c.2.2.2.2.2.1
        · intro k hk; rw [fm'.1 _ (by omega) (by omega) (by omega)]; exact c.2.2.2.2.2.2.1 k hk
        · intro k hk; rw [fm'.1 _ (by omega) (by omega) (by omega)]; exact c.2.2.2.2.2.2.2.1 k hk
        · intro k hk; rw [fm'.1 _ (by omega) (by omega) (by omega)]; exact c.2.2.2.2.2.2.2.2.1 k hk
        · rw [q_w_ne _ _ (by omega), fn'.2.1 _ (by omega)]; exact d.1
        · rw [q_w_ne _ _ (by omega), fn'.2.1 _ (by omega)]; exact d.2.1
        · rw [q_w_ne _ _ (by omega), fn'.2.1 _ (by omega)]; exact d.2.2.2.1
        · rw [q_w_ne _ _ (by omega), fn'.2.1 _ (by omega)]; exact d.2.2.2.2.1
        · rw [q_w_ne _ _ (by omega), fn'.2.1 _ (by omega)]; exact d.2.2.2.2.2.1
        · rw [q_w_ne _ _ (by omega), fn'.2.1 _ (by omega)]; exact d.2.2.2.2.2.2.1
        · intro k hk; rw [q_w_ne _ _ (by omega), fn'.2.1 _ (by omega)]; exact d.2.2.2.2.2.2.2.1 k hk
        · intro k hk; rw [q_w_ne _ _ (by omega), fn'.2.1 _ (by omega)]; exact d.2.2.2.2.2.2.2.2.1 k hk
        · intro k hk
          have hk : k < lH l := hk
          have h5 := o.2.1
          rw [q_w_ne _ _ (by omega), fn'.2.1 _ (by omega)]; exact d.2.2.2.2.2.2.2.2.2.1 k hk
        · intro i hi
          rw [q_w_ne _ _ (by omega)]
          exact (i7 i hi).2.1
  · rw [p2, Option.bind_some, p1, Option.bind_some]
    refine bOut.fail (mB := m1) (nB := n1) l2 f1 f2 ?_ rfl hr
    dsimp only
    rw [hf2, FL_Re_readCourse_1_7, if_neg (by decide), if_pos rfl]
    rfl
