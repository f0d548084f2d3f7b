/-! one, needed -/
theorem done_39 {K few : Nat} (hK : K ≤ 8) (hf : few ≤ 8) {G : Nat → Nat → Bool} {m : Nat → Nat → Int32} (h39 : m 39 0 = nI K) (h42 : ∀ j, j < K → m 42 j = nI (rb (fun p => G p j) j)) : ∃ m', ((∃ w', fnd G few K 0 w0 = some w' ∧ F_Ru_canBeDoneBy_39 m (nI few) = some (1, m') ∧ ∀ j, j < K → m' 43 j = nI (w' j)) ∨ (fnd G few K 0 w0 = none ∧ F_Ru_canBeDoneBy_39 m (nI few) = some (0, m'))) ∧ ∀ k, k ≠ 43 → k ≠ 44 → m' k = m k := by
  obtain ⟨m', a1, a2⟩ := tell_39 hK hf (G := G) K 0 20 m w0 (by omega) (by omega) h39 h42 (fun j hj => absurd hj (by omega)) (fun h k z => absurd z (by simp [la])) (fun k hk => absurd hk (by omega))
  refine ⟨m', ?_, a2⟩
  unfold F_Ru_canBeDoneBy_39
  rcases a1 with ⟨w', b1, b2, b3⟩ | ⟨b1, b2, _⟩
  · left
    refine ⟨w', b1, ?_, b3⟩
    rw [show F_Ru_tellFrom_39 20 m 0 0 (nI few) = some (1, m') from b2]
    rfl
  · right
    refine ⟨b1, ?_⟩
    rw [show F_Ru_tellFrom_39 20 m 0 0 (nI few) = some (0, m') from b2]
    rfl
theorem fewestLoop_39 {K fw : Nat} (hK : K ≤ 8) {G : Nat → Nat → Bool} {w' : Nat → Nat} (hF : isFw G K fw w') : ∀ (d p fu : Nat) (m : Nat → Nat → Int32), m 39 0 = nI K → (∀ j, j < K → m 42 j = nI (rb (fun p => G p j) j)) → p + d = fw → d < fu → ∃ m', ((fw < K ∧ FL_Ru_fewest_39_2 fu m (nI p) = some (.inl (nI fw, m')) ∧ ∀ j, j < K → m' 43 j = nI (w' j)) ∨ (fw = K ∧ FL_Ru_fewest_39_2 fu m (nI p) = some (.inr m'))) ∧ ∀ k, k ≠ 43 → k ≠ 44 → m' k = m k := by
  have hle := hF.2.1
  intro d
  induction d with
  | zero =>
    intro p fu m h39 h42 e1 e2
    obtain ⟨fu, rfl⟩ : ∃ f, fu = f + 1 := ⟨fu - 1, by omega⟩
    obtain rfl : p = fw := by omega
    by_cases e : p = K
    · refine ⟨m, Or.inr ⟨e, ?_⟩, fun _ _ _ => rfl⟩
      rw [FL_Ru_fewest_39_2, h39, if_pos (nI_le (by omega) (by omega))]
    · obtain ⟨m', a1, a2⟩ := done_39 hK (few := p) (by omega) h39 h42
      rcases a1 with ⟨w2, b1, b2, b3⟩ | ⟨b1, b2⟩
      · have ee := Option.some.inj (b1.symm.trans hF.1)
        refine ⟨m', Or.inl ⟨by omega, ?_, fun j hj => by rw [b3 j hj, ee]⟩, a2⟩
        rw [FL_Ru_fewest_39_2, h39, if_neg (nI_ge (by omega) (by omega)), b2, Option.bind_some]
        dsimp only
        rw [if_neg ne1]
      · rw [hF.1] at b1
        exact absurd b1 (by simp)
  | succ d ih =>
    intro p fu m h39 h42 e1 e2
    obtain ⟨fu, rfl⟩ : ∃ f, fu = f + 1 := ⟨fu - 1, by omega⟩
    obtain ⟨m', a1, a2⟩ := done_39 hK (few := p) (by omega) h39 h42
    rcases a1 with ⟨w2, b1, b2, b3⟩ | ⟨b1, b2⟩
    · rw [hF.2.2 p (by omega)] at b1
      exact absurd b1 (by simp)
    · obtain ⟨m2, c1, c2⟩ := ih (p + 1) fu m' (by rw [a2 _ (by omega) (by omega)]; exact h39) (fun j hj => by rw [a2 _ (by omega) (by omega)]; exact h42 j hj) (by omega) (by omega)
      refine ⟨m2, ?_, fun k k1 k2 => by rw [c2 k k1 k2, a2 k k1 k2]⟩
      rw [FL_Ru_fewest_39_2, h39, if_neg (nI_ge (by omega) (by omega)), b2, Option.bind_some]
      dsimp only
      rw [if_pos rfl, nI_1]
      exact c1
theorem fewestCl_39 {K fw : Nat} (hK : K ≤ 8) {G : Nat → Nat → Bool} {w' : Nat → Nat} (hF : isFw G K fw w') {m : Nat → Nat → Int32} (h39 : m 39 0 = nI K) (h42 : ∀ j, j < K → m 42 j = nI (rb (fun p => G p j) j)) : ∃ m', F_Ru_fewest_39 m = some (nI fw, m') ∧ (∀ j, j < K → m' 43 j = nI (w' j)) ∧ ∀ k, k ≠ 43 → k ≠ 44 → m' k = m k := by
  have hfu := qFU_big
  have hle := hF.2.1
  obtain ⟨m', a1, a2⟩ := fewestLoop_39 hK hF fw 0 qFU m h39 h42 (by omega) (by omega)
  unfold F_Ru_fewest_39
  rcases a1 with ⟨b1, b2, b3⟩ | ⟨b1, b2⟩
  · rw [show FL_Ru_fewest_39_2 qFU m 0 = _ from b2]
    exact ⟨m', rfl, b3, a2⟩
  · rw [show FL_Ru_fewest_39_2 qFU m 0 = _ from b2, Option.bind_some]
    dsimp only
    have h39' : m' 39 0 = nI K := by rw [a2 _ (by omega) (by omega)]; exact h39
    obtain ⟨m2, c1, c2⟩ := done_39 hK (few := K) (by omega) (G := G) h39' (fun j hj => by rw [a2 _ (by omega) (by omega)]; exact h42 j hj)
    have h39'' : m2 39 0 = nI K := by rw [c2 _ (by omega) (by omega)]; exact h39'
    rw [h39']
    rcases c1 with ⟨w2, d1, d2, d3⟩ | ⟨d1, d2⟩
    · have hF1 : fnd G K K 0 w0 = some w' := by have := hF.1; rw [b1] at this; exact this
      have ee := Option.some.inj (d1.symm.trans hF1)
      rw [d2, Option.bind_some]
      dsimp only
      rw [h39'', b1]
      exact ⟨m2, rfl, fun j hj => by rw [d3 j hj, ee], fun k k1 k2 => by rw [c2 k k1 k2, a2 k k1 k2]⟩
    · have hF1 : fnd G K K 0 w0 = some w' := by have := hF.1; rw [b1] at this; exact this
      rw [hF1] at d1
      exact absurd d1 (by simp)
theorem done_46 {K few : Nat} (hK : K ≤ 8) (hf : few ≤ 8) {G : Nat → Nat → Bool} {m : Nat → Nat → Int32} (h39 : m 46 0 = nI K) (h42 : ∀ j, j < K → m 49 j = nI (rb (fun p => G p j) j)) : ∃ m', ((∃ w', fnd G few K 0 w0 = some w' ∧ F_Ru_canBeDoneBy_46 m (nI few) = some (1, m') ∧ ∀ j, j < K → m' 50 j = nI (w' j)) ∨ (fnd G few K 0 w0 = none ∧ F_Ru_canBeDoneBy_46 m (nI few) = some (0, m'))) ∧ ∀ k, k ≠ 50 → k ≠ 51 → m' k = m k := by
  obtain ⟨m', a1, a2⟩ := tell_46 hK hf (G := G) K 0 20 m w0 (by omega) (by omega) h39 h42 (fun j hj => absurd hj (by omega)) (fun h k z => absurd z (by simp [la])) (fun k hk => absurd hk (by omega))
  refine ⟨m', ?_, a2⟩
  unfold F_Ru_canBeDoneBy_46
  rcases a1 with ⟨w', b1, b2, b3⟩ | ⟨b1, b2, _⟩
  · left
    refine ⟨w', b1, ?_, b3⟩
    rw [show F_Ru_tellFrom_46 20 m 0 0 (nI few) = some (1, m') from b2]
    rfl
  · right
    refine ⟨b1, ?_⟩
    rw [show F_Ru_tellFrom_46 20 m 0 0 (nI few) = some (0, m') from b2]
    rfl
theorem fewestLoop_46 {K fw : Nat} (hK : K ≤ 8) {G : Nat → Nat → Bool} {w' : Nat → Nat} (hF : isFw G K fw w') : ∀ (d p fu : Nat) (m : Nat → Nat → Int32), m 46 0 = nI K → (∀ j, j < K → m 49 j = nI (rb (fun p => G p j) j)) → p + d = fw → d < fu → ∃ m', ((fw < K ∧ FL_Ru_fewest_46_2 fu m (nI p) = some (.inl (nI fw, m')) ∧ ∀ j, j < K → m' 50 j = nI (w' j)) ∨ (fw = K ∧ FL_Ru_fewest_46_2 fu m (nI p) = some (.inr m'))) ∧ ∀ k, k ≠ 50 → k ≠ 51 → m' k = m k := by
  have hle := hF.2.1
  intro d
  induction d with
  | zero =>
    intro p fu m h39 h42 e1 e2
    obtain ⟨fu, rfl⟩ : ∃ f, fu = f + 1 := ⟨fu - 1, by omega⟩
    obtain rfl : p = fw := by omega
    by_cases e : p = K
    · refine ⟨m, Or.inr ⟨e, ?_⟩, fun _ _ _ => rfl⟩
      rw [FL_Ru_fewest_46_2, h39, if_pos (nI_le (by omega) (by omega))]
    · obtain ⟨m', a1, a2⟩ := done_46 hK (few := p) (by omega) h39 h42
      rcases a1 with ⟨w2, b1, b2, b3⟩ | ⟨b1, b2⟩
      · have ee := Option.some.inj (b1.symm.trans hF.1)
        refine ⟨m', Or.inl ⟨by omega, ?_, fun j hj => by rw [b3 j hj, ee]⟩, a2⟩
        rw [FL_Ru_fewest_46_2, h39, if_neg (nI_ge (by omega) (by omega)), b2, Option.bind_some]
        dsimp only
        rw [if_neg ne1]
      · rw [hF.1] at b1
        exact absurd b1 (by simp)
  | succ d ih =>
    intro p fu m h39 h42 e1 e2
    obtain ⟨fu, rfl⟩ : ∃ f, fu = f + 1 := ⟨fu - 1, by omega⟩
    obtain ⟨m', a1, a2⟩ := done_46 hK (few := p) (by omega) h39 h42
    rcases a1 with ⟨w2, b1, b2, b3⟩ | ⟨b1, b2⟩
    · rw [hF.2.2 p (by omega)] at b1
      exact absurd b1 (by simp)
    · obtain ⟨m2, c1, c2⟩ := ih (p + 1) fu m' (by rw [a2 _ (by omega) (by omega)]; exact h39) (fun j hj => by rw [a2 _ (by omega) (by omega)]; exact h42 j hj) (by omega) (by omega)
      refine ⟨m2, ?_, fun k k1 k2 => by rw [c2 k k1 k2, a2 k k1 k2]⟩
      rw [FL_Ru_fewest_46_2, h39, if_neg (nI_ge (by omega) (by omega)), b2, Option.bind_some]
      dsimp only
      rw [if_pos rfl, nI_1]
      exact c1
theorem fewestCl_46 {K fw : Nat} (hK : K ≤ 8) {G : Nat → Nat → Bool} {w' : Nat → Nat} (hF : isFw G K fw w') {m : Nat → Nat → Int32} (h39 : m 46 0 = nI K) (h42 : ∀ j, j < K → m 49 j = nI (rb (fun p => G p j) j)) : ∃ m', F_Ru_fewest_46 m = some (nI fw, m') ∧ (∀ j, j < K → m' 50 j = nI (w' j)) ∧ ∀ k, k ≠ 50 → k ≠ 51 → m' k = m k := by
  have hfu := qFU_big
  have hle := hF.2.1
  obtain ⟨m', a1, a2⟩ := fewestLoop_46 hK hF fw 0 qFU m h39 h42 (by omega) (by omega)
  unfold F_Ru_fewest_46
  rcases a1 with ⟨b1, b2, b3⟩ | ⟨b1, b2⟩
  · rw [show FL_Ru_fewest_46_2 qFU m 0 = _ from b2]
    exact ⟨m', rfl, b3, a2⟩
  · rw [show FL_Ru_fewest_46_2 qFU m 0 = _ from b2, Option.bind_some]
    dsimp only
    have h39' : m' 46 0 = nI K := by rw [a2 _ (by omega) (by omega)]; exact h39
    obtain ⟨m2, c1, c2⟩ := done_46 hK (few := K) (by omega) (G := G) h39' (fun j hj => by rw [a2 _ (by omega) (by omega)]; exact h42 j hj)
    have h39'' : m2 46 0 = nI K := by rw [c2 _ (by omega) (by omega)]; exact h39'
    rw [h39']
    rcases c1 with ⟨w2, d1, d2, d3⟩ | ⟨d1, d2⟩
    · have hF1 : fnd G K K 0 w0 = some w' := by have := hF.1; rw [b1] at this; exact this
      have ee := Option.some.inj (d1.symm.trans hF1)
      rw [d2, Option.bind_some]
      dsimp only
      rw [h39'', b1]
      exact ⟨m2, rfl, fun j hj => by rw [d3 j hj, ee], fun k k1 k2 => by rw [c2 k k1 k2, a2 k k1 k2]⟩
    · have hF1 : fnd G K K 0 w0 = some w' := by have := hF.1; rw [b1] at this; exact this
      rw [hF1] at d1
      exact absurd d1 (by simp)
theorem lays_loop {l : aL} {x : aN} (hk : aLok l) : ∀ (d i fu : Nat) (n : Nat → Nat → Int32), LMo l n → NMs 60 0 x n → n 56 17 = nI (lK l) → (∀ j, j < i → n 65 j = nI (lC l j) ∧ n 66 j = nI (cm l x j)) → i + d = lK l → d < fu → ∃ n', FL_Mo_lays_12 fu n (nI i) = some n' ∧ (∀ j, j < lK l → n' 65 j = nI (lC l j) ∧ n' 66 j = nI (cm l x j)) ∧ ∀ k, k ≠ 65 → k ≠ 66 → n' k = n k := by
  have h8 := hk.2.2.1
  intro d
  induction d with
  | zero =>
    intro i fu n hm hx h17 hr e1 e2
    obtain ⟨fu, rfl⟩ : ∃ f, fu = f + 1 := ⟨fu - 1, by omega⟩
    rw [FL_Mo_lays_12, h17, if_pos (nI_le (by omega) (by omega))]
    exact ⟨n, rfl, fun j hj => hr j (by omega), fun _ _ _ => rfl⟩
  | succ d ih =>
    intro i fu n hm hx h17 hr e1 e2
    obtain ⟨fu, rfl⟩ : ∃ f, fu = f + 1 := ⟨fu - 1, by omega⟩
    have lm1 : LMo l (q_w n 65 i (nI (lC l i))) := hm.of (by repeat (first | rfl | rw [q_w_ne _ _ (by omega)] | rw [q_w_row _ _ _ (by omega)] | rw [q_cw_row _ _ _ _ (by omega)])) (by repeat (first | rfl | rw [q_w_ne _ _ (by omega)] | rw [q_w_row _ _ _ (by omega)] | rw [q_cw_row _ _ _ _ (by omega)]))
    have nm1 : NMs 60 0 x (q_w n 65 i (nI (lC l i))) := hx.of (by repeat (first | rfl | rw [q_w_ne _ _ (by omega)] | rw [q_w_row _ _ _ (by omega)] | rw [q_cw_row _ _ _ _ (by omega)]))
    obtain ⟨n', a1, a2, a3⟩ := ih (i + 1) fu (q_w (q_w n 65 i (nI (lC l i))) 66 i (nI (cm l x i))) (lm1.of (by repeat (first | rfl | rw [q_w_ne _ _ (by omega)] | rw [q_w_row _ _ _ (by omega)] | rw [q_cw_row _ _ _ _ (by omega)])) (by repeat (first | rfl | rw [q_w_ne _ _ (by omega)] | rw [q_w_row _ _ _ (by omega)] | rw [q_cw_row _ _ _ _ (by omega)]))) (nm1.of (by repeat (first | rfl | rw [q_w_ne _ _ (by omega)] | rw [q_w_row _ _ _ (by omega)] | rw [q_cw_row _ _ _ _ (by omega)]))) (by rw [q_w_row _ _ _ (by omega), q_w_row _ _ _ (by omega)]; exact h17) (fun j hj => by
      rw [q_w_row _ _ _ (show 65 ≠ 66 by omega)]
      by_cases z : j = i
      · rw [z, q_w_same, q_w_same]
        exact ⟨rfl, rfl⟩
      · rw [q_w_ne _ _ (by omega), q_w_ne _ _ (by omega), q_w_row _ _ _ (by omega)]
        exact hr j (by omega)) (by omega) (by omega)
    refine ⟨n', ?_, a2, fun k k1 k2 => by rw [a3 k k1 k2, q_w_row _ _ _ k2, q_w_row _ _ _ k1]⟩
    rw [FL_Mo_lays_12, h17, if_neg (nI_ge (by omega) (by omega)), i_13, nI_add, q_in_nI (j := i) (by omega) (by omega), q_in_nI (j := 13 + i) (by omega) (by omega), nI_clamp (n := i) (by omega), nI_clamp (n := 13 + i) (by omega), cond_true, cond_true, hm.2.2.2.2.2.2.2.2.2.2 i (by omega), comes_ok hk lm1 nm1 (by omega), Option.bind_some, cond_true, nI_1]
    exact a1
theorem lays_ok {l : aL} {x : aN} {n : Nat → Nat → Int32} (hk : aLok l) (hx : aNok l x) (hm : LMo l n) (hn : NMs 60 0 x n) : ∃ n', F_Mo_lays n = some n' ∧ fInv l (lK l) (lC l) (cm l x) n' ∧ (∀ k, k ≠ 56 → k ≠ 65 → k ≠ 66 → n' k = n k) ∧ ∀ j, j ≠ 17 → n' 56 j = n 56 j := by
  have hfu := qFU_big
  have h8 := hk.2.2.1
  obtain ⟨n', a1, a2, a3⟩ := lays_loop (x := x) hk (lK l) 0 qFU (q_w n 56 17 (nI (lK l))) (hm.of (by repeat (first | rfl | rw [q_w_ne _ _ (by omega)] | rw [q_w_row _ _ _ (by omega)] | rw [q_cw_row _ _ _ _ (by omega)])) (by repeat (first | rfl | rw [q_w_ne _ _ (by omega)] | rw [q_w_row _ _ _ (by omega)] | rw [q_cw_row _ _ _ _ (by omega)]))) (hn.of (by repeat (first | rfl | rw [q_w_ne _ _ (by omega)] | rw [q_w_row _ _ _ (by omega)] | rw [q_cw_row _ _ _ _ (by omega)]))) (q_w_same _ _ _ _) (fun j hj => absurd hj (by omega)) (by omega) (by omega)
  refine ⟨n', ?_, ⟨hk, hm.of (by rw [a3 _ (by omega) (by omega), q_w_row _ _ _ (by omega)]) (by rw [a3 _ (by omega) (by omega), q_w_row _ _ _ (by omega)]), h8, by rw [a3 _ (by omega) (by omega), q_w_same], a2, fun i hi => hk.2.2.2.2.2.2.2.2.2.1 i hi, fun i j hij _ => cm_le l x hij, fun i hi => ?_⟩, fun k k0 k1 k2 => by rw [a3 k k1 k2, q_w_row _ _ _ k0], fun j hj => by rw [a3 _ (by omega) (by omega), q_w_ne _ _ (by omega)]⟩
  · unfold F_Mo_lays
    rw [hm.2.2.1, show FL_Mo_lays_12 qFU (q_w n 56 17 (nI (lK l))) 0 = _ from a1]
    rfl
  · have := cm_bd hk hx.2.2.1 i hi
    omega
/-- what the calls of this part leave as it was -/
theorem rR_fr {m m' n n' : Nat → Nat → Int32} (h : rR m n) (e : ∀ k, k < 43 → m' k = m k) (f : ∀ k, k ≠ 56 → k < 65 → n' k = n k) (g : ∀ j, j < 17 → n' 56 j = n 56 j) : rR m' n' := by
  obtain ⟨l, x, hz, hs, y1, y2, len, tx, ht, hl, hx, hr, hh, hi1, hi2⟩ := h
  exact ⟨l, x, hz, hs, y1, y2, len, tx, ht.of (by rw [e _ (by omega)]) (e _ (by omega)) (g _ (by omega)) (f _ (by omega) (by omega)), ⟨hl.1, hl.2.1.of (fun k a b => e k (by omega)), hl.2.2.of (f _ (by omega) (by omega)) (f _ (by omega) (by omega))⟩, ⟨hx.1, hx.2.1.of (fun k a b => e k (by omega)), hx.2.2.of (f _ (by omega) (by omega))⟩, hr.of (fun k a b => e k (by omega)), hh.of (fun k a b => e k (by omega)) (g _ (by omega)) (f _ (by omega) (by omega)), hi1.of (fun k a b => e k (by omega)) (by rw [f _ (by omega) (by omega)]) (f _ (by omega) (by omega)), hi2.of (fun k a b => e k (by omega)) (by rw [f _ (by omega) (by omega)]) (f _ (by omega) (by omega))⟩
theorem us_zero {w : Nat → Nat} : ∀ i, (∀ j, j < i → w j = 0) → us w i = if i = 0 then 0 else 1
  | 0, _ => rfl
  | i + 1, h => by
    unfold us
    rw [us_zero i (fun j hj => h j (by omega)), h i (by omega)]
    by_cases e : i = 0
    · rw [if_pos e]
      rfl
    · rw [if_neg e]
      rfl
theorem fnd_one (G : Nat → Nat → Bool) : ∀ n i w, (∀ j, j < i → w j = 0) → ((fnd G 1 n i w).isSome = true ↔ ∀ j, i ≤ j → j < i + n → 1 ≤ j → G (j - 1) j = true) := by
  intro n
  induction n with
  | zero =>
    intro i w hw
    exact ⟨fun _ j h1 h2 => absurd h1 (by omega), fun _ => rfl⟩
  | succ n ih =>
    intro i w hw
    have hu := us_zero i hw
    have e1 : (fnd G 1 (n + 1) i w).isSome = (if fit G w i 0 then fnd G 1 n (i + 1) (up1 w i 0) else none).isSome := by
      rw [fnd, frst]
      cases (if fit G w i 0 then fnd G 1 n (i + 1) (up1 w i 0) else none) with
      | none => rfl
      | some r => rfl
    have hw2 : ∀ j, j < i + 1 → up1 w i 0 j = 0 := fun j hj => by
      by_cases z : j = i
      · rw [z, up1_same]
      · rw [up1_ne _ _ z]
        exact hw j (by omega)
    have ih := ih (i + 1) (up1 w i 0) hw2
    have ft : fit G w i 0 = true ↔ (1 ≤ i → G (i - 1) i = true) := by
      cases i with
      | zero => exact ⟨fun _ z => absurd z (by omega), fun _ => rfl⟩
      | succ i =>
        have hl : la w 0 (i + 1) = some i := by
          rw [la, if_pos (hw i (by omega))]
        rw [fit_old (by omega) hl]
        exact ⟨fun z _ => z, fun z => z (by omega)⟩
    rw [e1]
    by_cases z : fit G w i 0 = true
    · rw [if_pos z, ih]
      constructor
      · intro h j h1 h2 h3
        by_cases e : j = i
        · rw [e]
          exact ft.mp z (by omega)
        · exact h j (by omega) (by omega) h3
      · intro h j h1 h2 h3
        exact h j (by omega) (by omega) h3
    · rw [if_neg z]
      constructor
      · intro h
        exact absurd h (by simp)
      · intro h
        exact absurd (ft.mpr (fun h1 => h i (by omega) (by omega) h1)) z
theorem one_loop {l : aL} {K : Nat} {c t : Nat → Nat} {n : Nat → Nat → Int32} (hI : fInv l K c t n) : ∀ (d i fu : Nat) (b : Int32), (b = 1 ∧ (∀ j, j < i → 1 ≤ j → can (lW l) (lS l) c t (j - 1) j = true)) ∨ (b = 0 ∧ ∃ j, j < i ∧ j < K ∧ 1 ≤ j ∧ ¬ can (lW l) (lS l) c t (j - 1) j = true) → 1 ≤ i → i ≤ 9 → (i + d = K ∨ (d = 0 ∧ K ≤ i)) → d < fu → (FL_Mo_one_8 fu n b (nI i) = some 1 ∧ ∀ j, j < K → 1 ≤ j → can (lW l) (lS l) c t (j - 1) j = true) ∨ (FL_Mo_one_8 fu n b (nI i) = some 0 ∧ ∃ j, j < K ∧ 1 ≤ j ∧ ¬ can (lW l) (lS l) c t (j - 1) j = true) := by
  have hK := hI.2.2.1
  intro d
  induction d with
  | zero =>
    intro i fu b hb h1 h9 e1 e2
    obtain ⟨fu, rfl⟩ : ∃ f, fu = f + 1 := ⟨fu - 1, by omega⟩
    rw [FL_Mo_one_8, hI.2.2.2.1, if_pos (nI_le (by omega) (by omega))]
    rcases hb with ⟨rfl, hb⟩ | ⟨rfl, j, j1, j2, j3, j4⟩
    · exact Or.inl ⟨rfl, fun j hj h => hb j (by omega) h⟩
    · exact Or.inr ⟨rfl, j, j2, j3, j4⟩
  | succ d ih =>
    intro i fu b hb h1 h9 e1 e2
    obtain ⟨fu, rfl⟩ : ∃ f, fu = f + 1 := ⟨fu - 1, by omega⟩
    have hiK : i < K := by omega
    rw [FL_Mo_one_8, hI.2.2.2.1, if_neg (nI_ge (by omega) (by omega)), nI_1]
    obtain ⟨p, rfl⟩ : ∃ p, i = p + 1 := ⟨i - 1, by omega⟩
    rcases hb with ⟨rfl, hb⟩ | ⟨rfl, j, j1, j2, j3, j4⟩
    · rw [if_neg ne1, nI_pred, canGo_ok hI.1 hI.2.1 hK hI.2.2.2.2.1 hI.2.2.2.2.2.1 hI.2.2.2.2.2.2.1 hI.2.2.2.2.2.2.2 (show p ≤ p + 1 by omega) hiK, Option.bind_some]
      by_cases z : can (lW l) (lS l) c t p (p + 1) = true
      · rw [if_pos z, if_neg ne1]
        refine ih (p + 1 + 1) fu 1 (Or.inl ⟨rfl, fun j hj h => ?_⟩) (by omega) (by omega) (by omega) (by omega)
        by_cases e : j = p + 1
        · rw [e]
          exact z
        · exact hb j (by omega) h
      · rw [if_neg z, if_pos rfl]
        exact ih (p + 1 + 1) fu 0 (Or.inr ⟨rfl, p + 1, by omega, hiK, by omega, z⟩) (by omega) (by omega) (by omega) (by omega)
    · rw [if_pos rfl]
      exact ih (p + 1 + 1) fu 0 (Or.inr ⟨rfl, j, by omega, j2, j3, j4⟩) (by omega) (by omega) (by omega) (by omega)
theorem E_one {m n : Nat → Nat → Int32} (h : rR m n) : ∃ r m' n', F_AT_one m = some (r, m') ∧ F_Mo_one n = some (r, n') ∧ rR m' n' := by
  have hR := h
  obtain ⟨l, x, hz, hs, y1, y2, len, tx, ht, hl, hx, hr, hh, hi1, hi2⟩ := h
  have hfu := qFU_big
  have h8 := hl.1.2.2.1
  obtain ⟨n1, a1, a2, a3, a4⟩ := lays_ok hl.1 hx.1 hl.2.2 hx.2.2.1
  obtain ⟨m1, b1, b2⟩ := done_39 h8 (few := 1) (by omega) (G := cg l x) hr.1 (fun j hj => (hr.2 j hj).2.2)
  have R2 : rR m1 n1 := rR_fr hR (fun k hk => b2 k (by omega) (by omega)) (fun k k1 k2 => a3 k k1 (by omega) (by omega)) (fun j hj => a4 j (by omega))
  have f1 := fnd_one (cg l x) (lK l) 0 w0 (fun j hj => absurd hj (by omega))
  have o := one_loop a2 (lK l - 1) 1 qFU 1 (Or.inl ⟨rfl, fun j h1 h2 => absurd h1 (by omega)⟩) (by omega) (by omega) (by omega) (by omega)
  unfold F_AT_one F_Mo_one
  rw [a1, Option.bind_some]
  rcases o with ⟨o1, o2⟩ | ⟨o1, j, o2, o3, o4⟩
  · rw [show FL_Mo_one_8 qFU n1 1 1 = some 1 from o1, Option.bind_some, if_neg ne1]
    rcases b1 with ⟨w', c1, c2, c3⟩ | ⟨c1, c2⟩
    · rw [show F_Ru_canBeDoneBy_39 m 1 = some (1, m1) from c2]
      exact ⟨1, m1, n1, rfl, rfl, R2⟩
    · have := f1.mpr (fun j h1 h2 h3 => o2 j (by omega) h3)
      rw [c1] at this
      exact absurd this (by simp)
  · rw [show FL_Mo_one_8 qFU n1 1 1 = some 0 from o1, Option.bind_some, if_pos rfl]
    rcases b1 with ⟨w', c1, c2, c3⟩ | ⟨c1, c2⟩
    · have := f1.mp (by rw [c1]; rfl) j (by omega) (by omega) o3
      exact absurd this o4
    · rw [show F_Ru_canBeDoneBy_39 m 1 = some (0, m1) from c2]
      exact ⟨0, m1, n1, rfl, rfl, R2⟩
theorem E_needed {m n : Nat → Nat → Int32} (h : rR m n) (a : Int32) : ∃ r m' n', F_AT_needed m a = some (r, m') ∧ F_Mo_needed n a = some (r, n') ∧ rR m' n' := by
  have hR := h
  obtain ⟨l, x, hz, hs, y1, y2, len, tx, ht, hl, hx, hr, hh, hi1, hi2⟩ := h
  have h8 := hl.1.2.2.1
  have hP : lK l < 2 ^ 30 := by omega
  obtain ⟨n1, a1, a2, a3, a4⟩ := lays_ok hl.1 hx.1 hl.2.2 hx.2.2.1
  obtain ⟨fw, w', hF⟩ := fw_ex (can (lW l) (lS l) (lC l) (cm l x)) (lK l)
  obtain ⟨n2, b1, b2, b3⟩ := fewestMo_ok hF a2
  obtain ⟨m1, c1, c2, c3⟩ := fewestCl_39 h8 hF hr.1 (fun j hj => (hr.2 j hj).2.2)
  have R2 : rR m1 n2 := rR_fr hR (fun k hk => c3 k (by omega) (by omega)) (fun k k1 k2 => by rw [b3 k (by omega), a3 k k1 (by omega) (by omega)]) (fun j hj => by rw [b3 _ (by omega), a4 j (by omega)])
  unfold F_AT_needed F_Mo_needed
  by_cases e : a = Int32.ofInt (-1)
  · rw [if_pos e, if_pos e, c1, a1, Option.bind_some, Option.bind_some, b1, Option.bind_some]
    dsimp only
    rw [if_pos e]
    exact ⟨_, m1, n2, rfl, rfl, R2⟩
  · rw [if_neg e, if_neg e]
    rcases ix a (lK l) hP with h | ⟨i, hi, rfl⟩
    · rw [hasPoint_bad hr.1 hP h, isPoint_bad hl.2.2.2.2.1 hP h]
      exact ⟨_, _, _, rfl, rfl, hR⟩
    · rw [hasPoint_ok hr.1 hP hi, isPoint_ok hl.2.2.2.2.1 hP hi, Option.bind_some, Option.bind_some, if_neg ne1, if_neg ne1, c1, a1, Option.bind_some, Option.bind_some, b1, Option.bind_some]
      dsimp only
      rw [if_neg e, q_in_nI (j := i) (by omega) (by omega), nI_clamp (n := i) (by omega), c2 i hi, b2 i hi]
      exact ⟨_, m1, n2, rfl, rfl, R2⟩
