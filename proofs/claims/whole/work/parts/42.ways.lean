/-! fits, sure: all rows, one after another -/
theorem w45_inner {l : aL} {x : aN} {N i : Nat} {w : Nat → Nat} (hiN : i + (N + 1) = lK l) (hw5 : ∀ k, k < i → w k < 5)
    (hsub : ∀ (h' a : Nat) (n5 : Nat → Nat → Int32) (th : Nat → Nat), h' < lH l → okr (cbB l x) (cg l x) w i h' = true → gInv l x n5 → (∀ j, j < i + 1 → n5 67 j = nI (up1 w i h' j)) → (∀ j, i < j → j < 8 → n5 67 j = Int32.ofInt (-1)) → (∀ p, p < lK l → n5 69 p = nI (th p) ∧ th p < 32) → ∃ C1, C1 ≤ bw N ∧ ∃ n6 th6, (∀ fu, (if nI (lK l) ≤ nI (i + 1) then Option.bind (FL_Mo_ways_144 qFU n5 (nI (a + 1)) (nI i) 0) (fun m12 => FL_Mo_ways_45 (fu + C1) m12 (nI (a + 1)) (nI i)) else FL_Mo_ways_45 (fu + C1) n5 (nI a) (nI (i + 1))) = FL_Mo_ways_45 fu n6 (nI (a + cn (cbB l x) (cg l x) (lH l) N (i + 1) (up1 w i h'))) (nI i)) ∧ (∀ j, j < 8 → n6 67 j = n5 67 j) ∧ (∀ p, p < lK l → n6 69 p = nI (th6 p) ∧ th6 p < 32) ∧ tR (lK l) th th6 (eX (cbB l x) (cg l x) (lH l) (lK l) (i + 1) (up1 w i h') 0) ∧ ∀ k, k ≠ 67 → k ≠ 69 → n6 k = n5 k) :
    ∀ (e h a : Nat) (n : Nat → Nat → Int32) (th : Nat → Nat), h + e = lH l → gInv l x n → (∀ j, j < i → n 67 j = nI (w j)) → n 67 i = nI h - 1 → (∀ j, i < j → j < 8 → n 67 j = Int32.ofInt (-1)) → (∀ p, p < lK l → n 69 p = nI (th p) ∧ th p < 32) → ∃ C, C ≤ e * (1 + bw N) + 1 ∧ ∃ n' th', (∀ fu, FL_Mo_ways_45 (fu + C) n (nI a) (nI i) = FL_Mo_ways_45 fu n' (nI (a + sm (fun p => if okr (cbB l x) (cg l x) w i p = true then cn (cbB l x) (cg l x) (lH l) N (i + 1) (up1 w i p) else 0) e h)) (nI i - 1)) ∧ (∀ j, j ≠ i → j < 8 → n' 67 j = n 67 j) ∧ n' 67 i = Int32.ofInt (-1) ∧ (∀ p, p < lK l → n' 69 p = nI (th' p) ∧ th' p < 32) ∧ tR (lK l) th th' (eX (cbB l x) (cg l x) (lH l) (lK l) i w h) ∧ ∀ k, k ≠ 67 → k ≠ 69 → n' k = n k := by
  have hfu := qFU_big
  obtain ⟨f, hf⟩ : ∃ f : Nat → Nat, f = fun p => if okr (cbB l x) (cg l x) w i p = true then cn (cbB l x) (cg l x) (lH l) N (i + 1) (up1 w i p) else 0 := ⟨_, rfl⟩
  rw [← hf]
  have ff : ∀ p, okr (cbB l x) (cg l x) w i p = false → f p = 0 := fun p hp => by rw [hf]; dsimp only; rw [hp]; rfl
  have ft : ∀ p, okr (cbB l x) (cg l x) w i p = true → f p = cn (cbB l x) (cg l x) (lH l) N (i + 1) (up1 w i p) := fun p hp => by rw [hf]; dsimp only; rw [if_pos hp]
  intro e
  induction e using Nat.strongRecOn with
  | _ e ih =>
    intro h a n th he hI hn hh hm1 ht
    have h8 := hI.1.1.2.2.1
    have h5 := hI.1.1.2.1
    have hi : i < lK l := by omega
    have g0 : ¬ nI i < 0 := nI_pos (by omega)
    have hinc : nI h - 1 + 1 = nI h := Int32.sub_add_cancel _ _
    have hm : nI i + Int32.ofInt (-1) = nI i - 1 := by
      rw [Int32.sub_eq_add_neg]
      rfl
    obtain ⟨h', n5, a1, a2, a3, a4, a5, a6, a7, a8⟩ := ways59 (l := l) (x := x) (w := w) (nI a) hi e h qFU (q_w n 67 i (nI h)) (hI.fr (fun k hk => q_w_row _ _ _ (by omega))) (fun k hk => by rw [q_w_ne _ _ (by omega)]; exact ⟨hn k hk, hw5 k hk⟩) (q_w_same _ _ _ _) (by omega) (by omega)
    have fr5 : ∀ k, k ≠ 67 → n5 k = n k := fun k hk => by rw [a5 k hk, q_w_row _ _ _ hk]
    have hg5 : gInv l x n5 := hI.fr (fun k hk => fr5 k (by omega))
    have st : ∀ fu, FL_Mo_ways_45 (fu + 1) n (nI a) (nI i) = (if nI h' = nI (lH l) then FL_Mo_ways_45 fu (q_w n5 67 i (Int32.ofInt (-1))) (nI a) (nI i - 1) else if nI (lK l) ≤ nI (i + 1) then Option.bind (FL_Mo_ways_144 qFU n5 (nI (a + 1)) (nI i) 0) (fun m12 => FL_Mo_ways_45 fu m12 (nI (a + 1)) (nI i)) else FL_Mo_ways_45 fu n5 (nI a) (nI (i + 1))) := by
      intro fu
      rw [FL_Mo_ways_45, if_neg g0, q_in_nI (j := i) (by omega) (by omega), nI_clamp (n := i) (by omega), hh, hinc, a3, cond_true, cond_true, Option.bind_some, cond_true, a4, hg5.1.2.1.2.1, hg5.1.2.2.2.1, cond_true, ← nI_1, ← nI_1, hm]
    by_cases g2 : h' = lH l
    · refine ⟨1, by omega, q_w n5 67 i (Int32.ofInt (-1)), th, fun fu => ?_, fun j hj _ => by rw [q_w_ne _ _ (by omega), a6 j hj, q_w_ne _ _ (by omega)], q_w_same _ _ _ _, fun p hp => by rw [q_w_row _ _ _ (by omega), fr5 _ (by omega)]; exact ht p hp, tR.no ?_, fun k k1 k2 => by rw [q_w_row _ _ _ k1, fr5 k k1]⟩
      · have z : sm f e h = 0 := by
          refine (sm_cg e h (fun p h1 h2 => ?_)).trans (sm_zero e h)
          exact ff p (a7 p h1 (by omega))
        rw [st, if_pos (by rw [g2]), z, Nat.add_zero]
      · rintro w' ⟨p1, p2, p3⟩
        obtain ⟨q1, q2⟩ := p2 i (by omega) hi
        rw [okr_cg (w := w') (v := w) p1, a7 (w' i) (p3 hi) (by omega)] at q2
        exact absurd q2 (by decide)
    · have hfit := a8.resolve_left g2
      obtain ⟨C1, b1, n6, th6, b2, b3, b4, b5, b6⟩ := hsub h' a n5 th (by omega) hfit hg5 (fun j hj => by
        by_cases z : j = i
        · rw [z, up1_same]
          exact a4
        · rw [up1_ne _ _ z, a6 j z, q_w_ne _ _ (by omega)]
          exact hn j (by omega)) (fun j h1 h2 => by rw [a6 j (by omega), q_w_ne _ _ (by omega)]; exact hm1 j h1 h2) (fun p hp => by rw [fr5 _ (by omega)]; exact ht p hp)
      have fr6 : ∀ k, k ≠ 67 → k ≠ 69 → n6 k = n k := fun k k1 k2 => by rw [b6 k k1 k2, fr5 k k1]
      obtain ⟨C2, c1, n7, th7, c2, c3, c4, c5, c6, c7⟩ := ih (lH l - (h' + 1)) (by omega) (h' + 1) (a + cn (cbB l x) (cg l x) (lH l) N (i + 1) (up1 w i h')) n6 th6 (by omega) (hI.fr (fun k hk => fr6 k (by omega) (by omega))) (fun j hj => by rw [b3 j (by omega), a6 j (by omega), q_w_ne _ _ (by omega)]; exact hn j hj) (by rw [b3 i (by omega), a4, nI_pred]) (fun j h1 h2 => by rw [b3 j h2, a6 j (by omega), q_w_ne _ _ (by omega)]; exact hm1 j h1 h2) b4
      have skip : sm f e h = cn (cbB l x) (cg l x) (lH l) N (i + 1) (up1 w i h') + sm f (lH l - (h' + 1)) (h' + 1) := by
        have := sm_skip (f := f) (h' - h) (lH l - h') h (fun p h1 h2 => ff p (a7 p h1 (by omega)))
        rw [show h' - h + (lH l - h') = e by omega, show h + (h' - h) = h' by omega, show lH l - h' = (lH l - (h' + 1)) + 1 by omega, sm, ft h' hfit] at this
        exact this
      have ar : (lH l - (h' + 1)) * (1 + bw N) + (1 + bw N) ≤ e * (1 + bw N) := by
        have : (lH l - (h' + 1) + 1) * (1 + bw N) ≤ e * (1 + bw N) := Nat.mul_le_mul_right _ (by omega)
        rw [Nat.succ_mul] at this
        exact this
      refine ⟨C2 + C1 + 1, by omega, n7, th7, fun fu => ?_, fun j hj h1 => by rw [c3 j hj h1, b3 j h1, a6 j hj, q_w_ne _ _ (by omega)], c4, c5, b5.cp c6 (fun w' => ⟨?_, ?_⟩), fun k k1 k2 => by rw [c7 k k1 k2, fr6 k k1 k2]⟩
      · rw [← Nat.add_assoc, st, if_neg (fun z => g2 ((nI_eq (by omega) (by omega)).mp z)), ← Nat.add_assoc, b2 (fu + C2), c2, skip, Nat.add_assoc]
      · rintro ⟨p1, p2, p3⟩
        obtain ⟨q1, q2⟩ := p2 i (by omega) hi
        have q3 := p3 hi
        by_cases z : w' i = h'
        · refine Or.inl ⟨fun j hj => ?_, fun j j1 j2 => p2 j (by omega) j2, fun _ => Nat.zero_le _⟩
          by_cases y : j = i
          · rw [y, up1_same]
            exact z
          · rw [up1_ne _ _ y]
            exact p1 j (by omega)
        · refine Or.inr ⟨p1, p2, fun _ => ?_⟩
          apply Classical.byContradiction
          intro y
          rw [okr_cg (w := w') (v := w) p1, a7 (w' i) q3 (by omega)] at q2
          exact absurd q2 (by decide)
      · rintro (⟨p1, p2, p3⟩ | ⟨p1, p2, p3⟩)
        · have e1 : ∀ j, j < i → w' j = w j := fun j hj => by rw [p1 j (by omega), up1_ne _ _ (by omega)]
          have e2 : w' i = h' := by rw [p1 i (by omega), up1_same]
          refine ⟨e1, fun j j1 j2 => ?_, fun _ => by omega⟩
          by_cases y : j = i
          · rw [y, e2, okr_cg (w := w') (v := w) e1]
            exact ⟨by omega, hfit⟩
          · exact p2 j (by omega) j2
        · exact ⟨p1, p2, fun z => by have := p3 z; omega⟩
theorem ways45 {l : aL} {x : aN} : ∀ (N i a : Nat) (w : Nat → Nat) (n : Nat → Nat → Int32) (th : Nat → Nat), i + (N + 1) = lK l → (∀ k, k < i → w k < 5) → gInv l x n → (∀ j, j < i → n 67 j = nI (w j)) → (∀ j, i ≤ j → j < 8 → n 67 j = Int32.ofInt (-1)) → (∀ p, p < lK l → n 69 p = nI (th p) ∧ th p < 32) → ∃ C, C ≤ bw (N + 1) ∧ ∃ n' th', (∀ fu, FL_Mo_ways_45 (fu + C) n (nI a) (nI i) = FL_Mo_ways_45 fu n' (nI (a + cn (cbB l x) (cg l x) (lH l) (N + 1) i w)) (nI i - 1)) ∧ (∀ j, j < 8 → n' 67 j = n 67 j) ∧ (∀ p, p < lK l → n' 69 p = nI (th' p) ∧ th' p < 32) ∧ tR (lK l) th th' (eX (cbB l x) (cg l x) (lH l) (lK l) i w 0) ∧ ∀ k, k ≠ 67 → k ≠ 69 → n' k = n k := by
  have hfu := qFU_big
  have fin : ∀ (N i a : Nat) (w : Nat → Nat) (n : Nat → Nat → Int32) (th : Nat → Nat), i + (N + 1) = lK l → (∀ k, k < i → w k < 5) → gInv l x n → (∀ j, j < i → n 67 j = nI (w j)) → (∀ j, i ≤ j → j < 8 → n 67 j = Int32.ofInt (-1)) → (∀ p, p < lK l → n 69 p = nI (th p) ∧ th p < 32) → (∃ C, C ≤ lH l * (1 + bw N) + 1 ∧ ∃ n' th', (∀ fu, FL_Mo_ways_45 (fu + C) n (nI a) (nI i) = FL_Mo_ways_45 fu n' (nI (a + sm (fun p => if okr (cbB l x) (cg l x) w i p = true then cn (cbB l x) (cg l x) (lH l) N (i + 1) (up1 w i p) else 0) (lH l) 0)) (nI i - 1)) ∧ (∀ j, j ≠ i → j < 8 → n' 67 j = n 67 j) ∧ n' 67 i = Int32.ofInt (-1) ∧ (∀ p, p < lK l → n' 69 p = nI (th' p) ∧ th' p < 32) ∧ tR (lK l) th th' (eX (cbB l x) (cg l x) (lH l) (lK l) i w 0) ∧ ∀ k, k ≠ 67 → k ≠ 69 → n' k = n k) → ∃ C, C ≤ bw (N + 1) ∧ ∃ n' th', (∀ fu, FL_Mo_ways_45 (fu + C) n (nI a) (nI i) = FL_Mo_ways_45 fu n' (nI (a + cn (cbB l x) (cg l x) (lH l) (N + 1) i w)) (nI i - 1)) ∧ (∀ j, j < 8 → n' 67 j = n 67 j) ∧ (∀ p, p < lK l → n' 69 p = nI (th' p) ∧ th' p < 32) ∧ tR (lK l) th th' (eX (cbB l x) (cg l x) (lH l) (lK l) i w 0) ∧ ∀ k, k ≠ 67 → k ≠ 69 → n' k = n k := by
    rintro N i a w n th e1 hw hI hn hm1 ht ⟨C, c1, n', th', c2, c3, c4, c5, c6, c7⟩
    have h5 := hI.1.1.2.1
    have h8 := hI.1.1.2.2.1
    have ar : lH l * (1 + bw N) ≤ 5 * (1 + bw N) := Nat.mul_le_mul_right _ h5
    refine ⟨C, by rw [bw]; omega, n', th', fun fu => by rw [c2, cn], fun j hj => ?_, c5, c6, c7⟩
    by_cases z : j = i
    · rw [z, c4, hm1 i (by omega) (by omega)]
    · exact c3 j z hj
  intro N
  induction N with
  | zero =>
    intro i a w n th e1 hw hI hn hm1 ht
    have h8 := hI.1.1.2.2.1
    have h5 := hI.1.1.2.1
    refine fin 0 i a w n th e1 hw hI hn hm1 ht (w45_inner e1 hw ?_ (lH l) 0 a n th (by omega) hI hn (by rw [hm1 i (by omega) (by omega)]; decide) (fun j j1 j2 => hm1 j (by omega) j2) ht)
    intro h' a n5 th hh' hok hg5 r1 r2 r3
    have v5 : ∀ p, p < lK l → up1 w i h' p < 5 := fun p hp => by
      by_cases z : p = i
      · rw [z, up1_same]
        omega
      · rw [up1_ne _ _ z]
        exact hw p (by omega)
    obtain ⟨n6, d1, d2, d3, d4⟩ := ways144 h8 (w := up1 w i h') (th := th) (nI (a + 1)) (nI i) (lK l) 0 qFU n5 (by omega) (by omega) hg5.1.2.2.2.1 (fun p hp => ⟨r1 p (by omega), v5 p hp⟩) (fun p _ hp => (r3 p hp).1)
    refine ⟨0, Nat.le_refl _, n6, fun p => th p ||| 2 ^ up1 w i h' p, fun fu => ?_, fun j hj => by rw [d2 _ (by omega)], fun p hp => ⟨d3 p (by omega) hp, Nat.or_lt_two_pow (n := 5) (r3 p hp).2 (Nat.pow_lt_pow_right (by omega) (v5 p hp))⟩, fun p hp h => ?_, fun k k1 k2 => d2 k k2⟩
    · rw [if_pos (nI_le (by omega) (by omega)), show FL_Mo_ways_144 qFU n5 (nI (a + 1)) (nI i) 0 = _ from d1, Option.bind_some, cn, Nat.add_zero]
    · dsimp only
      rw [Nat.testBit_or, Bool.or_eq_true, Nat.testBit_two_pow]
      constructor
      · rintro (z | z)
        · exact Or.inl z
        · exact Or.inr ⟨up1 w i h', ⟨fun _ _ => rfl, fun j j1 j2 => absurd j2 (by omega), fun z => absurd z (by omega)⟩, by simpa using z⟩
      · rintro (z | ⟨w', ⟨p1, p2, p3⟩, z⟩)
        · exact Or.inl z
        · exact Or.inr (by rw [← z, p1 p (by omega)]; simp)
  | succ N ih =>
    intro i a w n th e1 hw hI hn hm1 ht
    have h8 := hI.1.1.2.2.1
    have h5 := hI.1.1.2.1
    refine fin (N + 1) i a w n th e1 hw hI hn hm1 ht (w45_inner e1 hw ?_ (lH l) 0 a n th (by omega) hI hn (by rw [hm1 i (by omega) (by omega)]; decide) (fun j j1 j2 => hm1 j (by omega) j2) ht)
    intro h' a n5 th hh' hok hg5 r1 r2 r3
    obtain ⟨C1, b1, n6, th6, b2, b3, b4, b5, b6⟩ := ih (i + 1) a (up1 w i h') n5 th (by omega) (fun p hp => by
      by_cases z : p = i
      · rw [z, up1_same]
        omega
      · rw [up1_ne _ _ z]
        exact hw p (by omega)) hg5 r1 (fun j j1 j2 => r2 j (by omega) j2) r3
    refine ⟨C1, b1, n6, th6, fun fu => ?_, b3, b4, b5, b6⟩
    rw [if_neg (nI_ge (by omega) (by omega)), b2, nI_pred]
theorem ways6 : ∀ (d j fu : Nat) (n : Nat → Nat → Int32), j + d = 8 → d < fu → ∃ n', FL_Mo_ways_6 fu n (nI j) = some n' ∧ (∀ k, k ≠ 67 → k ≠ 69 → n' k = n k) ∧ (∀ p, j ≤ p → p < 8 → n' 67 p = Int32.ofInt (-1) ∧ n' 69 p = 0) ∧ ∀ p, p < j → n' 67 p = n 67 p ∧ n' 69 p = n 69 p := by
  intro d
  induction d with
  | zero =>
    intro j fu n e1 e2
    obtain ⟨fu, rfl⟩ : ∃ f, fu = f + 1 := ⟨fu - 1, by omega⟩
    obtain rfl : j = 8 := by omega
    rw [FL_Mo_ways_6, if_pos (by decide)]
    exact ⟨n, rfl, fun _ _ _ => rfl, fun p h1 h2 => absurd h1 (by omega), fun _ _ => ⟨rfl, rfl⟩⟩
  | succ d ih =>
    intro j fu n e1 e2
    obtain ⟨fu, rfl⟩ : ∃ f, fu = f + 1 := ⟨fu - 1, by omega⟩
    have g1 : ¬ (8 : Int32) ≤ nI j := (nI_ge (by omega) (by omega) : ¬ nI 8 ≤ nI j)
    rw [FL_Mo_ways_6, if_neg g1, q_in_nI (j := j) (by omega) (by omega), nI_clamp (n := j) (by omega), cond_true, cond_true, nI_1]
    obtain ⟨n', a1, a2, a3, a4⟩ := ih (j + 1) fu (q_w (q_w n 67 j (Int32.ofInt (-1))) 69 j 0) (by omega) (by omega)
    refine ⟨n', a1, fun k k1 k2 => by rw [a2 k k1 k2, q_w_row _ _ _ k2, q_w_row _ _ _ k1], fun p h1 h2 => ?_, fun p hp => ?_⟩
    · by_cases z : p = j
      · rw [(a4 p (by omega)).1, (a4 p (by omega)).2, z, q_w_row _ _ _ (show 67 ≠ 69 by omega), q_w_same, q_w_same]
        exact ⟨rfl, rfl⟩
      · exact a3 p (by omega) h2
    · rw [(a4 p (by omega)).1, (a4 p (by omega)).2, q_w_row _ _ _ (show 67 ≠ 69 by omega), q_w_ne _ _ (by omega), q_w_ne _ _ (by omega), q_w_row _ _ _ (by omega)]
      exact ⟨rfl, rfl⟩
theorem bw8 : ∀ k, k ≤ 8 → bw k < 999999 := by decide +kernel
theorem ways_ok {l : aL} {x : aN} {n : Nat → Nat → Int32} (hk : aLok l) (hx : aNok l x) (hm : LMo l n) (hn : NMo 60 0 x n) : ∃ n' th, F_Mo_ways n = some (nI (cn (cbB l x) (cg l x) (lH l) (lK l) 0 w0), n') ∧ (∀ p, p < lK l → n' 69 p = nI (th p) ∧ th p < 32) ∧ tR (lK l) (fun _ => 0) th (eX (cbB l x) (cg l x) (lH l) (lK l) 0 w0 0) ∧ (∀ k, k ≠ 56 → k < 65 → n' k = n k) ∧ ∀ j, j ≠ 17 → n' 56 j = n 56 j := by
  have hfu := qFU_big
  have h8 := hk.2.2.1
  obtain ⟨n1, a1, a2, a3, a4⟩ := lays_ok hk hx hm hn.1
  obtain ⟨n2, b1, b2, b3, b4⟩ := ways6 8 0 qFU n1 (by omega) (by omega)
  have hg2 : gInv l x n2 := by
    have hg1 : gInv l x n1 := ⟨a2, hx, hn.of (a3 _ (by omega) (by omega) (by omega))⟩
    exact hg1.fr (fun k hk => b2 k (by omega) (by omega))
  have fr2 : ∀ k, k ≠ 56 → k < 65 → n2 k = n k := fun k k1 k2 => by rw [b2 k (by omega) (by omega), a3 k k1 (by omega) (by omega)]
  have fr56 : ∀ j, j ≠ 17 → n2 56 j = n 56 j := fun j hj => by rw [b2 _ (by omega) (by omega), a4 j hj]
  unfold F_Mo_ways
  rw [a1, Option.bind_some, show FL_Mo_ways_6 qFU n1 0 = _ from b1, Option.bind_some, hg2.1.2.2.2.1]
  by_cases z : lK l = 0
  · rw [z, if_pos (show nI 0 = 0 from rfl)]
    exact ⟨n2, fun _ => 0, rfl, fun p hp => absurd hp (by omega), fun p hp => absurd hp (by omega), fr2, fr56⟩
  · obtain ⟨N, hN⟩ : ∃ N, lK l = N + 1 := ⟨lK l - 1, by omega⟩
    obtain ⟨C, c1, n3, th3, c2, c3, c4, c5, c6⟩ := ways45 (l := l) (x := x) N 0 0 w0 n2 (fun _ => 0) (by omega) (fun k hk => absurd hk (by omega)) hg2 (fun j hj => absurd hj (by omega)) (fun j _ h8 => (b3 j (by omega) h8).1) (fun p hp => ⟨(b3 p (by omega) (by omega)).2, by omega⟩)
    have b8 := bw8 (N + 1) (by omega)
    obtain ⟨fu, hfu2⟩ : ∃ fu, qFU = fu + 1 + C := ⟨qFU - 1 - C, by omega⟩
    rw [Nat.zero_add] at c2
    rw [if_neg (nI_ne0 (by omega) (by omega)), hfu2, show FL_Mo_ways_45 (fu + 1 + C) n2 0 0 = _ from c2 (fu + 1), FL_Mo_ways_45, if_pos (by decide), Option.bind_some]
    dsimp only
    rw [← hN]
    exact ⟨n3, th3, rfl, c4, c5, fun k k1 k2 => by rw [c6 k (by omega) (by omega), fr2 k k1 k2], fun j hj => by rw [c6 _ (by omega) (by omega), fr56 j hj]⟩
