/-! worst: the class -/
theorem mt_cg (l : aL) {c c' : Nat → Nat} : ∀ i, (∀ j, j ≤ i → c j = c' j) → mt l c i = mt l c' i
  | 0, _ => rfl
  | i + 1, h => by
    unfold mt
    rw [mt_cg l i (fun j hj => h j (by omega)), h i (by omega), h (i + 1) (by omega)]
theorem mt_le (l : aL) (c : Nat → Nat) {i j : Nat} (h : i ≤ j) : mt l c i ≤ mt l c j := by
  induction h with
  | refl => exact Nat.le_refl _
  | step _ ih => exact Nat.le_trans ih (by rw [mt]; omega)
theorem mt_bd {l : aL} (hk : aLok l) {c : Nat → Nat} : ∀ i, i < 8 → (∀ j, j ≤ i → c j < lP l) → mt l c i ≤ 60 * i
  | 0, _, _ => Nat.le_refl _
  | i + 1, h8, hc => by
    have h1 := mt_bd hk i (by omega) (fun j hj => hc j (by omega))
    have c1 := hc i (by omega)
    have c2 := hc (i + 1) (by omega)
    have p8 := hk.1.2
    have h2 := hk.2.2.2.2.2.2.1 (8 * c i + c (i + 1)) (by omega)
    have h3 : i * lT l ≤ 7 * 3 := Nat.mul_le_mul (by omega) hk.2.2.2.2.1
    unfold mt
    omega
theorem rb_cg {f g : Nat → Bool} : ∀ i, (∀ j, j < i → f j = g j) → rb f i = rb g i
  | 0, _ => rfl
  | i + 1, h => by
    unfold rb
    rw [rb_cg i (fun j hj => h j (by omega)), h i (by omega)]
def wkI (l : aL) (s : Nat) (c : Nat → Nat) (m : Nat → Nat → Int32) : Prop := m 46 0 = nI s ∧ ∀ i, i < s → m 47 i = nI (c i) ∧ m 48 i = nI (mt l c i) ∧ m 49 i = nI (rb (fun j => can (lW l) (lS l) c (mt l c) j i) i)
theorem wkI.cg {l : aL} {s : Nat} {c c' : Nat → Nat} {m : Nat → Nat → Int32} (h : wkI l s c m) (e : ∀ i, i < s → c i = c' i) : wkI l s c' m := by
  refine ⟨h.1, fun i hi => ?_⟩
  obtain ⟨h1, h2, h3⟩ := h.2 i hi
  have m1 : ∀ j, j ≤ i → mt l c j = mt l c' j := fun j hj => mt_cg l j (fun p hp => e p (by omega))
  refine ⟨by rw [h1, e i hi], by rw [h2, m1 i (by omega)], ?_⟩
  rw [h3]
  congr 1
  apply rb_cg
  intro j hj
  unfold can
  rw [e i hi, e j (by omega), m1 i (by omega), m1 j (by omega)]
theorem wkI.fr {l : aL} {s : Nat} {c : Nat → Nat} {m m' : Nat → Nat → Int32} (h : wkI l s c m) (e : eqr m m' 46 49) : wkI l s c m' := by
  unfold wkI at h ⊢
  rw [e 46 (by omega) (by omega), e 47 (by omega) (by omega), e 48 (by omega) (by omega), e 49 (by omega) (by omega)]
  exact h
def stI (st : Option (Nat × Nat)) (p q : Int32) : Prop := match st with
  | none => p = Int32.ofInt (-9) ∧ q = Int32.ofInt (-9)
  | some (a, b) => p = nI a ∧ q = nI b ∧ a ≤ 8
theorem figures_loop {c : Nat → Nat} {K : Nat} (hK : K ≤ 8) {m : Nat → Nat → Int32} (h46 : m 46 0 = nI K) (h47 : ∀ i, i < K → m 47 i = nI (c i)) : ∀ d i fu, i + d = K → d < fu → FL_Ru_figures_46_4 fu m (nI (fg c i)) (nI i) = some (nI (fg c K)) := by
  intro d
  induction d with
  | zero =>
    intro i fu e1 e2
    obtain ⟨fu, rfl⟩ : ∃ f, fu = f + 1 := ⟨fu - 1, by omega⟩
    rw [FL_Ru_figures_46_4, h46, if_pos (nI_le (by omega) (by omega)), show i = K by omega]
  | succ d ih =>
    intro i fu e1 e2
    obtain ⟨fu, rfl⟩ : ∃ f, fu = f + 1 := ⟨fu - 1, by omega⟩
    rw [FL_Ru_figures_46_4, h46, if_neg (nI_ge (by omega) (by omega)), q_in_nI (j := i) (by omega) (by omega), nI_clamp (n := i) (by omega), h47 i (by omega), cond_true, nI_1, i_10, pk_mul, nI_add, nI_1]
    exact ih (i + 1) fu (by omega) (by omega)
theorem weigh_ok {l : aL} {K : Nat} (hK : K ≤ 8) {c : Nat → Nat} {st : Option (Nat × Nat)} {m : Nat → Nat → Int32} (hw : wkI l K c m) (hs : stI st (m 45 0) (m 45 1)) : ∃ m', F_Wo_weigh_45 m = some m' ∧ stI (wgh l K c st) (m' 45 0) (m' 45 1) ∧ ∀ k, k < 45 ∨ (45 < k ∧ k < 50) ∨ 51 < k → m' k = m k := by
  have hfu := qFU_big
  obtain ⟨w', hF⟩ := fwn_ok (can (lW l) (lS l) c (mt l c)) K
  have hle := hF.2.1
  have fin : ∀ m1 : Nat → Nat → Int32, (∀ k, k < 50 ∨ 51 < k → m1 k = m k) → ∃ m', (Option.bind (F_Ru_fewest_46 m1) fun x => match x with | (r2, m3) => Option.bind (F_Ru_figures_46 (q_w m3 45 0 r2)) fun r5 => some (q_w (q_w m3 45 0 r2) 45 1 r5)) = some m' ∧ stI (some (fwn (can (lW l) (lS l) c (mt l c)) K, fg c K)) (m' 45 0) (m' 45 1) ∧ ∀ k, k < 45 ∨ (45 < k ∧ k < 50) ∨ 51 < k → m' k = m k := by
    intro m1 hm1
    obtain ⟨m3, c1, c2, c3⟩ := fewestCl_46 hK hF (m := m1) (by rw [hm1 _ (by omega)]; exact hw.1) (fun j hj => by rw [hm1 _ (by omega)]; exact (hw.2 j hj).2.2)
    have fl := figures_loop (c := c) hK (m := q_w m3 45 0 (nI (fwn (can (lW l) (lS l) c (mt l c)) K))) (by rw [q_w_row _ _ _ (by omega), c3 _ (by omega) (by omega), hm1 _ (by omega)]; exact hw.1) (fun j hj => by rw [q_w_row _ _ _ (by omega), c3 _ (by omega) (by omega), hm1 _ (by omega)]; exact (hw.2 j hj).1) K 0 qFU (by omega) (by omega)
    have ff : F_Ru_figures_46 (q_w m3 45 0 (nI (fwn (can (lW l) (lS l) c (mt l c)) K))) = some (nI (fg c K)) := by
      unfold F_Ru_figures_46
      rw [show FL_Ru_figures_46_4 qFU (q_w m3 45 0 (nI (fwn (can (lW l) (lS l) c (mt l c)) K))) 0 0 = _ from fl]
      rfl
    rw [c1, Option.bind_some]
    dsimp only
    rw [ff, Option.bind_some]
    refine ⟨_, rfl, ⟨by rw [q_w_ne _ _ (by omega), q_w_same], by rw [q_w_same], by omega⟩, fun k hk => by rw [q_w_row _ _ _ (by omega), q_w_row _ _ _ (by omega), c3 _ (by omega) (by omega), hm1 _ (by omega)]⟩
  unfold F_Wo_weigh_45
  cases st with
  | none =>
    obtain ⟨h1, h2⟩ := hs
    rw [if_pos h1]
    exact fin m (fun _ _ => rfl)
  | some ab =>
    obtain ⟨a, b⟩ := ab
    obtain ⟨h1, h2, h3⟩ := hs
    rw [if_neg (by rw [h1]; exact nI_neg9 (by omega)), h1]
    obtain ⟨m1, d1, d2⟩ := done_46 hK (few := a) h3 (G := can (lW l) (lS l) c (mt l c)) hw.1 (fun j hj => (hw.2 j hj).2.2)
    unfold wgh
    dsimp only
    rcases d1 with ⟨w2, e1, e2, e3⟩ | ⟨e1, e2⟩
    · have g : ¬ a < fwn (can (lW l) (lS l) c (mt l c)) K := by
        intro z
        rw [hF.2.2 a z] at e1
        exact absurd e1 (by simp)
      rw [e2, Option.bind_some, if_neg g]
      dsimp only
      rw [if_neg ne1]
      exact ⟨m1, rfl, ⟨by rw [d2 _ (by omega) (by omega)]; exact h1, by rw [d2 _ (by omega) (by omega)]; exact h2, h3⟩, fun k hk => d2 k (by omega) (by omega)⟩
    · have g : a < fwn (can (lW l) (lS l) c (mt l c)) K := by
        apply Classical.byContradiction
        intro z
        have := fnd_mono (can (lW l) (lS l) c (mt l c)) (show fwn (can (lW l) (lS l) c (mt l c)) K ≤ a by omega) K 0 w0 (by rw [hF.1]; rfl)
        rw [e1] at this
        exact absurd this (by simp)
      rw [e2, Option.bind_some, if_pos g]
      dsimp only
      rw [if_pos rfl]
      exact fin m1 (fun k hk => d2 k (by omega) (by omega))
theorem tryAll_ok {l : aL} (hk : aLok l) {K : Nat} (hK : K ≤ 5) : ∀ (n s dn : Nat) (m : Nat → Nat → Int32) (c : Nat → Nat) (st : Option (Nat × Nat)), s + n = K → 1 ≤ s → n < dn → LCl l m → (∀ i, i < s → c i < lP l) → wkI l s c m → stI st (m 45 0) (m 45 1) → ∃ m', F_Wo_tryAll_45_9 dn m (nI n) = some m' ∧ wkI l s c m' ∧ stI (dfs l K n s c st) (m' 45 0) (m' 45 1) ∧ ∀ k, k < 45 ∨ 51 < k → m' k = m k := by
  have hfu := qFU_big
  have p8 := hk.1.2
  intro n
  induction n with
  | zero =>
    intro s dn m c st e1 e2 e3 hc hcp hw hs
    obtain ⟨dn, rfl⟩ : ∃ d, dn = d + 1 := ⟨dn - 1, by omega⟩
    obtain rfl : s = K := by omega
    obtain ⟨m', a1, a2, a3⟩ := weigh_ok (by omega) hw hs
    refine ⟨m', ?_, hw.fr (fun k a b => a3 k (by omega)), a2, fun k hk => a3 k (by omega)⟩
    rw [F_Wo_tryAll_45_9, if_neg (by decide), a1]
    rfl
  | succ n ih =>
    intro s dn m c st e1 e2 e3 hc hcp hw hs
    obtain ⟨dn, rfl⟩ : ∃ d, dn = d + 1 := ⟨dn - 1, by omega⟩
    obtain ⟨p, rfl⟩ : ∃ p, s = p + 1 := ⟨s - 1, by omega⟩
    have loop : ∀ (e d fu : Nat) (m : Nat → Nat → Int32) (st : Option (Nat × Nat)), d + e = lP l → e < fu → LCl l m → wkI l (p + 1) c m → stI st (m 45 0) (m 45 1) → ∃ m', FL_Wo_tryAll_45_9_41 (F_Wo_tryAll_45_9 dn) fu m (nI (n + 1)) (nI (c p)) (nI d) = some m' ∧ wkI l (p + 1) c m' ∧ stI (fo (fun d st => if lF l (8 * c (p + 1 - 1) + d) = 0 then st else dfs l K n (p + 1 + 1) (up1 c (p + 1) d) st) e d st) (m' 45 0) (m' 45 1) ∧ ∀ k, k < 45 ∨ 51 < k → m' k = m k := by
      intro e
      induction e with
      | zero =>
        intro d fu m st e1 e2 hc hw hs
        obtain ⟨fu, rfl⟩ : ∃ f, fu = f + 1 := ⟨fu - 1, by omega⟩
        rw [FL_Wo_tryAll_45_9_41, hc.1, if_pos (nI_le (by omega) (by omega))]
        exact ⟨m, rfl, hw, hs, fun _ _ => rfl⟩
      | succ e ihe =>
        intro d fu m st f1 f2 hc hw hs
        obtain ⟨fu, rfl⟩ : ∃ f, fu = f + 1 := ⟨fu - 1, by omega⟩
        have cp := hcp p (by omega)
        have fl := hc.2.2.2.2.2.2.1 (8 * c p + d) (by omega)
        have f9 := hk.2.2.2.2.2.2.1 (8 * c p + d) (by omega)
        rw [FL_Wo_tryAll_45_9_41, hc.1, if_neg (nI_ge (by omega) (by omega)), furrowBetween_ok (by omega) (by omega), Option.bind_some, fl, nI_1, fo, Nat.add_sub_cancel]
        by_cases z : lF l (8 * c p + d) = 0
        · rw [z, if_pos (by decide), if_pos rfl]
          have := ihe (d + 1) fu m st (by omega) (by omega) hc hw hs
          rw [Nat.add_sub_cancel] at this
          exact this
        · rw [if_neg (nI_nle (by omega) (by omega)), if_neg z]
          have hw2 : wkI l (p + 1) (up1 c (p + 1) d) m := hw.cg (fun i hi => (up1_ne c d (by omega)).symm)
          have cs : up1 c (p + 1) d (p + 1) = d := up1_same _ _ _
          have cpp : up1 c (p + 1) d p = c p := up1_ne _ _ (by omega)
          have hcp2 : ∀ i, i < p + 1 + 1 → up1 c (p + 1) d i < lP l := fun i hi => by
            by_cases zi : i = p + 1
            · rw [zi, cs]
              omega
            · rw [up1_ne _ _ zi]
              exact hcp i (by omega)
          have bnd := mt_bd hk (c := up1 c (p + 1) d) (p + 1) (by omega) (fun j hj => hcp2 j (by omega))
          have stp := stepTo_ok_46 hk hc (s := p + 1) (by omega) (c := up1 c (p + 1) d) (t := mt l (up1 c (p + 1) d)) hw2.1 (fun i hi => ⟨(hw2.2 i hi).1, (hw2.2 i hi).2.1⟩) (fun i hi => hcp2 i (by omega)) (fun i hi => mt_le l _ hi) (by omega) 0 (by rw [if_neg (by omega), Nat.add_sub_cancel, Nat.add_zero]; rfl)
          rw [cs] at stp
          rw [show F_Ru_stepTo_46_9 m (nI d) 0 = _ from stp, Option.bind_some, nI_pred]
          obtain ⟨m5, hm5⟩ : ∃ m5, m5 = q_w (q_w (q_w (q_w m 47 (p + 1) (nI d)) 48 (p + 1) (nI (mt l (up1 c (p + 1) d) (p + 1)))) 49 (p + 1) (nI (rb (fun j => can (lW l) (lS l) (up1 c (p + 1) d) (mt l (up1 c (p + 1) d)) j (p + 1)) (p + 1)))) 46 0 (nI (p + 1 + 1)) := ⟨_, rfl⟩
          rw [← hm5]
          have fr5 : ∀ k, k < 46 ∨ 49 < k → m5 k = m k := fun k hk => by rw [hm5, q_w_row _ _ _ (by omega), q_w_row _ _ _ (by omega), q_w_row _ _ _ (by omega), q_w_row _ _ _ (by omega)]
          have hw5 : wkI l (p + 1 + 1) (up1 c (p + 1) d) m5 := by
            refine ⟨by rw [hm5, q_w_same], fun i hi => ?_⟩
            rw [hm5, q_w_row _ _ _ (show 47 ≠ 46 by omega), q_w_row _ _ _ (show 48 ≠ 46 by omega), q_w_row _ _ _ (show 49 ≠ 46 by omega), q_w_row _ _ _ (show 47 ≠ 49 by omega), q_w_row _ _ _ (show 48 ≠ 49 by omega), q_w_row _ _ _ (show 47 ≠ 48 by omega)]
            by_cases zi : i = p + 1
            · rw [zi, q_w_same, q_w_same, q_w_same, cs]
              exact ⟨rfl, rfl, rfl⟩
            · rw [q_w_ne _ _ (by omega), q_w_ne _ _ (by omega), q_w_ne _ _ (by omega), q_w_ne _ _ (by omega), q_w_ne _ _ (by omega), q_w_ne _ _ (by omega)]
              exact hw2.2 i (by omega)
          obtain ⟨m7, a1, a2, a3, a4⟩ := ih (p + 1 + 1) dn m5 (up1 c (p + 1) d) st (by omega) (by omega) (by omega) (hc.of (fun k a b => fr5 k (by omega))) hcp2 hw5 (by rw [fr5 _ (by omega)]; exact hs)
          have sb : F_Ru_stepBack_46 m7 = some (q_w m7 46 0 (nI (p + 1))) := by
            unfold F_Ru_stepBack_46
            rw [a2.1, if_neg (nI_nle (by omega) (by omega)), nI_pred]
          rw [a1, Option.bind_some, sb, Option.bind_some]
          have hw9 : wkI l (p + 1) c (q_w m7 46 0 (nI (p + 1))) := by
            have w9 : wkI l (p + 1) (up1 c (p + 1) d) (q_w m7 46 0 (nI (p + 1))) := by
              refine ⟨q_w_same _ _ _ _, fun i hi => ?_⟩
              rw [q_w_row _ _ _ (by omega), q_w_row _ _ _ (by omega), q_w_row _ _ _ (by omega)]
              exact a2.2 i (by omega)
            exact w9.cg (fun i hi => up1_ne c d (by omega))
          obtain ⟨m', b1, b2, b3, b4⟩ := ihe (d + 1) fu (q_w m7 46 0 (nI (p + 1))) (dfs l K n (p + 1 + 1) (up1 c (p + 1) d) st) (by omega) (by omega) (hc.of (fun k a b => by rw [q_w_row _ _ _ (by omega), a4 k (by omega), fr5 k (by omega)])) hw9 (by rw [q_w_row _ _ _ (by omega)]; exact a3)
          rw [Nat.add_sub_cancel] at b3
          exact ⟨m', b1, b2, b3, fun k hk => by rw [b4 k hk, q_w_row _ _ _ (by omega), a4 k hk, fr5 k (by omega)]⟩
    obtain ⟨m', a1, a2, a3, a4⟩ := loop (lP l) 0 qFU m st (by omega) (by omega) hc hw hs
    refine ⟨m', ?_, a2, by rw [dfs]; exact a3, a4⟩
    have g1 : 0 < nI (n + 1) := (nI_lt (by omega) (by omega) : nI 0 < nI (n + 1))
    have g2 : 0 < nI (p + 1) := (nI_lt (by omega) (by omega) : nI 0 < nI (p + 1))
    rw [F_Wo_tryAll_45_9, if_pos g1, hw.1, if_pos g2, nI_pred, q_in_nI (j := p) (by omega) (by omega), nI_clamp (n := p) (by omega), cond_true, (hw.2 p (by omega)).1, show FL_Wo_tryAll_45_9_41 (F_Wo_tryAll_45_9 dn) qFU m (nI (n + 1)) (nI (c p)) 0 = _ from a1]
    rfl
