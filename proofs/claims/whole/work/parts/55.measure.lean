/-! the ways, measured by both -/
theorem w12_loop {P s a : Nat} {F : Nat → Nat} (hP : P ≤ 8) (ha : a < P) (h9 : ∀ k, k < 64 → F k ≤ 9) : ∀ (d b fu : Nat) (m : Nat → Nat → Int32), b + d = P → d < fu → m 9 0 = nI P → m 9 3 = nI s → (∀ k, k < 64 → m 10 k = nI (F k)) → (∀ a' b', a' < P → b' < P → 8 * a' + b' < 8 * a + b → m 11 (8 * a' + b') = wI s (wi F (8 * a' + b'))) → ∃ m', FL_La_measureWays_9_12 fu m (nI a) (nI b) = some m' ∧ (∀ k, k ≠ 11 → m' k = m k) ∧ ∀ a' b', a' < P → b' < P → 8 * a' + b' < 8 * (a + 1) → m' 11 (8 * a' + b') = wI s (wi F (8 * a' + b')) := by
  intro d
  induction d with
  | zero =>
    intro b fu m e1 e2 h0 h3 h10 h11
    obtain ⟨fu, rfl⟩ : ∃ f, fu = f + 1 := ⟨fu - 1, by omega⟩
    rw [FL_La_measureWays_9_12, h0, if_pos (nI_le (by omega) (by omega))]
    exact ⟨m, rfl, fun _ _ => rfl, fun a' b' p1 p2 p3 => h11 a' b' p1 p2 (by omega)⟩
  | succ d ih =>
    intro b fu m e1 e2 h0 h3 h10 h11
    obtain ⟨fu, rfl⟩ : ∃ f, fu = f + 1 := ⟨fu - 1, by omega⟩
    have f9 := h9 (8 * a + b) (by omega)
    rw [FL_La_measureWays_9_12, h0, if_neg (nI_ge (by omega) (by omega)), pair_nI, Option.bind_some, Option.bind_some, q_in_nI (j := 8 * a + b) (by omega) (by omega), nI_clamp (n := 8 * a + b) (by omega), cond_true, cond_true, cond_true, cond_true, h10 _ (by omega), h3, pk_mul, nI_1]
    have go : ∀ v, v = wI s (wi F (8 * a + b)) → ∃ m', FL_La_measureWays_9_12 fu (q_w m 11 (8 * a + b) v) (nI a) (nI (b + 1)) = some m' ∧ (∀ k, k ≠ 11 → m' k = m k) ∧ ∀ a' b', a' < P → b' < P → 8 * a' + b' < 8 * (a + 1) → m' 11 (8 * a' + b') = wI s (wi F (8 * a' + b')) := by
      intro v hv
      obtain ⟨m', a1, a2, a3⟩ := ih (b + 1) fu (q_w m 11 (8 * a + b) v) (by omega) (by omega) (by rw [q_w_row _ _ _ (by omega)]; exact h0) (by rw [q_w_row _ _ _ (by omega)]; exact h3) (fun k hk => by rw [q_w_row _ _ _ (by omega)]; exact h10 k hk) (fun a' b' p1 p2 p3 => by
        by_cases z : 8 * a' + b' = 8 * a + b
        · rw [z, q_w_same, hv]
        · rw [q_w_ne _ _ (by omega)]
          exact h11 a' b' p1 p2 (by omega))
      exact ⟨m', a1, fun k hk => by rw [a2 k hk, q_w_row _ _ _ hk], a3⟩
    have g : wi F (8 * a + b) = if a = b then some 0 else if F (8 * a + b) = 0 then none else some (F (8 * a + b)) := by
      unfold wi
      rw [show (8 * a + b) / 8 = a by omega, show (8 * a + b) % 8 = b by omega]
    by_cases z : a = b
    · rw [if_pos (by rw [z])]
      exact go 0 (by rw [g, if_pos z]; rfl)
    · rw [if_neg (fun y => z ((nI_eq (by omega) (by omega)).mp y))]
      by_cases y : F (8 * a + b) = 0
      · rw [if_pos (by rw [y]; decide)]
        exact go 1000000 (by rw [g, if_neg z, if_pos y]; rfl)
      · rw [if_neg (nI_nle (by omega) (by omega))]
        exact go _ (by rw [g, if_neg z, if_neg y, wI_some])
theorem w2_loop {P s : Nat} {F : Nat → Nat} (hP : P ≤ 8) (h9 : ∀ k, k < 64 → F k ≤ 9) : ∀ (d a fu : Nat) (m : Nat → Nat → Int32), a + d = P → d < fu → m 9 0 = nI P → m 9 3 = nI s → (∀ k, k < 64 → m 10 k = nI (F k)) → (∀ a' b', a' < P → b' < P → 8 * a' + b' < 8 * a → m 11 (8 * a' + b') = wI s (wi F (8 * a' + b'))) → ∃ m', FL_La_measureWays_9_2 fu m (nI a) = some m' ∧ (∀ k, k ≠ 11 → m' k = m k) ∧ ∀ a' b', a' < P → b' < P → m' 11 (8 * a' + b') = wI s (wi F (8 * a' + b')) := by
  have hfu := qFU_big
  intro d
  induction d with
  | zero =>
    intro a fu m e1 e2 h0 h3 h10 h11
    obtain ⟨fu, rfl⟩ : ∃ f, fu = f + 1 := ⟨fu - 1, by omega⟩
    rw [FL_La_measureWays_9_2, h0, if_pos (nI_le (by omega) (by omega))]
    exact ⟨m, rfl, fun _ _ => rfl, fun a' b' p1 p2 => h11 a' b' p1 p2 (by omega)⟩
  | succ d ih =>
    intro a fu m e1 e2 h0 h3 h10 h11
    obtain ⟨fu, rfl⟩ : ∃ f, fu = f + 1 := ⟨fu - 1, by omega⟩
    obtain ⟨m1, a1, a2, a3⟩ := w12_loop (s := s) (F := F) hP (a := a) (by omega) h9 P 0 qFU m (by omega) (by omega) h0 h3 h10 h11
    rw [FL_La_measureWays_9_2, h0, if_neg (nI_ge (by omega) (by omega)), show FL_La_measureWays_9_12 qFU m (nI a) 0 = _ from a1, Option.bind_some, nI_1]
    obtain ⟨m', b1, b2, b3⟩ := ih (a + 1) fu m1 (by omega) (by omega) (by rw [a2 _ (by omega)]; exact h0) (by rw [a2 _ (by omega)]; exact h3) (fun k hk => by rw [a2 _ (by omega)]; exact h10 k hk) a3
    exact ⟨m', b1, fun k hk => by rw [b2 k hk, a2 k hk], b3⟩
theorem pw9 : ∀ n, n ≤ 8 → 9 * 2 ^ n ≤ 2304 := by decide +kernel
theorem w99_loop {P s by' a : Nat} {w : Nat → Option Nat} (hP : P ≤ 8) (hs : 1 ≤ s) (hs9 : s ≤ 9) (hb : by' < P) (ha : a < P) (hw : fwI P by' w) : ∀ (d b fu : Nat) (m : Nat → Nat → Int32), b + d = P → d < fu → m 9 0 = nI P → (∀ a' b', a' < P → b' < P → m 11 (8 * a' + b') = wI s (mxx w by' (8 * a + b) (8 * a' + b'))) → ∃ m', FL_La_measureWays_9_99 fu m (nI by') (nI a) (nI b) = some m' ∧ (∀ k, k ≠ 11 → m' k = m k) ∧ ∀ a' b', a' < P → b' < P → m' 11 (8 * a' + b') = wI s (mxx w by' (8 * (a + 1)) (8 * a' + b')) := by
  have p9 := pw9 by' (by omega)
  intro d
  induction d with
  | zero =>
    intro b fu m e1 e2 h0 h11
    obtain ⟨fu, rfl⟩ : ∃ f, fu = f + 1 := ⟨fu - 1, by omega⟩
    rw [FL_La_measureWays_9_99, h0, if_pos (nI_le (by omega) (by omega))]
    refine ⟨m, rfl, fun _ _ => rfl, fun a' b' p1 p2 => ?_⟩
    rw [h11 a' b' p1 p2]
    unfold mxx
    by_cases z : 8 * a' + b' < 8 * a + b
    · rw [if_pos z, if_pos (by omega)]
    · rw [if_neg z, if_neg (by omega)]
  | succ d ih =>
    intro b fu m e1 e2 h0 h11
    obtain ⟨fu, rfl⟩ : ∃ f, fu = f + 1 := ⟨fu - 1, by omega⟩
    have x1 := h11 a by' ha hb
    have x2 := h11 by' b hb (by omega)
    have x3 := h11 a b ha (by omega)
    rw [mxx_col hw (by omega)] at x1
    rw [mxx_row hw (by omega) (by omega)] at x2
    have x3 : m 11 (8 * a + b) = wI s (w (8 * a + b)) := by
      rw [x3]
      unfold mxx
      rw [if_neg (by omega)]
    have rl := wI_relax (s := s) (x := w (8 * a + by')) (y := w (8 * by' + b)) (z := w (8 * a + b)) hs hs9 (fun v hv => by have := hw.2.2.2.2.1 a by' v (by omega) (by omega) hv; omega) (fun v hv => by have := hw.2.2.2.2.1 by' b v (by omega) (by omega) hv; omega) (fun v hv => by have := hw.2.2.2.2.1 a b v (by omega) (by omega) hv; omega)
    rw [← ph_get by' w (by omega)] at rl
    rw [FL_La_measureWays_9_99, h0, if_neg (nI_ge (by omega) (by omega)), pair_nI, Option.bind_some, pair_nI, Option.bind_some, pair_nI, Option.bind_some, Option.bind_some, q_in_nI (j := 8 * a + by') (by omega) (by omega), q_in_nI (j := 8 * by' + b) (by omega) (by omega), q_in_nI (j := 8 * a + b) (by omega) (by omega), nI_clamp (n := 8 * a + by') (by omega), nI_clamp (n := 8 * by' + b) (by omega), nI_clamp (n := 8 * a + b) (by omega), cond_true, cond_true, cond_true, cond_true, x1, x2, x3, rl, nI_1]
    obtain ⟨m', a1, a2, a3⟩ := ih (b + 1) fu (q_w m 11 (8 * a + b) (wI s (ph by' w (8 * a + b)))) (by omega) (by omega) (by rw [q_w_row _ _ _ (by omega)]; exact h0) (fun a' b' p1 p2 => by
      by_cases z : 8 * a' + b' = 8 * a + b
      · rw [z, q_w_same]
        unfold mxx
        rw [if_pos (by omega)]
      · rw [q_w_ne _ _ (by omega), h11 a' b' p1 p2]
        unfold mxx
        by_cases y : 8 * a' + b' < 8 * a + b
        · rw [if_pos y, if_pos (by omega)]
        · rw [if_neg y, if_neg (by omega)])
    exact ⟨m', a1, fun k hk => by rw [a2 k hk, q_w_row _ _ _ hk], a3⟩
theorem w89_loop {P s by' : Nat} {w : Nat → Option Nat} (hP : P ≤ 8) (hs : 1 ≤ s) (hs9 : s ≤ 9) (hb : by' < P) (hw : fwI P by' w) : ∀ (d a fu : Nat) (m : Nat → Nat → Int32), a + d = P → d < fu → m 9 0 = nI P → (∀ a' b', a' < P → b' < P → m 11 (8 * a' + b') = wI s (mxx w by' (8 * a) (8 * a' + b'))) → ∃ m', FL_La_measureWays_9_89 fu m (nI by') (nI a) = some m' ∧ (∀ k, k ≠ 11 → m' k = m k) ∧ ∀ a' b', a' < P → b' < P → m' 11 (8 * a' + b') = wI s (ph by' w (8 * a' + b')) := by
  have hfu := qFU_big
  intro d
  induction d with
  | zero =>
    intro a fu m e1 e2 h0 h11
    obtain ⟨fu, rfl⟩ : ∃ f, fu = f + 1 := ⟨fu - 1, by omega⟩
    rw [FL_La_measureWays_9_89, h0, if_pos (nI_le (by omega) (by omega))]
    refine ⟨m, rfl, fun _ _ => rfl, fun a' b' p1 p2 => ?_⟩
    rw [h11 a' b' p1 p2]
    unfold mxx
    rw [if_pos (by omega)]
  | succ d ih =>
    intro a fu m e1 e2 h0 h11
    obtain ⟨fu, rfl⟩ : ∃ f, fu = f + 1 := ⟨fu - 1, by omega⟩
    obtain ⟨m1, a1, a2, a3⟩ := w99_loop hP hs hs9 hb (a := a) (by omega) hw P 0 qFU m (by omega) (by omega) h0 h11
    rw [FL_La_measureWays_9_89, h0, if_neg (nI_ge (by omega) (by omega)), show FL_La_measureWays_9_99 qFU m (nI by') (nI a) 0 = _ from a1, Option.bind_some, nI_1]
    obtain ⟨m', b1, b2, b3⟩ := ih (a + 1) fu m1 (by omega) (by omega) (by rw [a2 _ (by omega)]; exact h0) a3
    exact ⟨m', b1, fun k hk => by rw [b2 k hk, a2 k hk], b3⟩
theorem w79_loop {P s : Nat} {w : Nat → Option Nat} (hP : P ≤ 8) (hs : 1 ≤ s) (hs9 : s ≤ 9) (hw : fwI P 0 w) : ∀ (d by' fu : Nat) (m : Nat → Nat → Int32), by' + d = P → d < fu → m 9 0 = nI P → (∀ a' b', a' < P → b' < P → m 11 (8 * a' + b') = wI s (fw w by' (8 * a' + b'))) → ∃ m', FL_La_measureWays_9_79 fu m (nI by') = some m' ∧ (∀ k, k ≠ 11 → m' k = m k) ∧ ∀ a' b', a' < P → b' < P → m' 11 (8 * a' + b') = wI s (fw w P (8 * a' + b')) := by
  have hfu := qFU_big
  intro d
  induction d with
  | zero =>
    intro by' fu m e1 e2 h0 h11
    obtain ⟨fu, rfl⟩ : ∃ f, fu = f + 1 := ⟨fu - 1, by omega⟩
    rw [FL_La_measureWays_9_79, h0, if_pos (nI_le (by omega) (by omega))]
    exact ⟨m, rfl, fun _ _ => rfl, fun a' b' p1 p2 => by rw [h11 a' b' p1 p2, show by' = P by omega]⟩
  | succ d ih =>
    intro by' fu m e1 e2 h0 h11
    obtain ⟨fu, rfl⟩ : ∃ f, fu = f + 1 := ⟨fu - 1, by omega⟩
    obtain ⟨m1, a1, a2, a3⟩ := w89_loop hP hs hs9 (by' := by') (by omega) (fwI_all hw by' (by omega)) P 0 qFU m (by omega) (by omega) h0 (fun a' b' p1 p2 => by
      rw [h11 a' b' p1 p2]
      unfold mxx
      rw [if_neg (by omega)])
    rw [FL_La_measureWays_9_79, h0, if_neg (nI_ge (by omega) (by omega)), show FL_La_measureWays_9_89 qFU m (nI by') 0 = _ from a1, Option.bind_some, nI_1]
    obtain ⟨m', b1, b2, b3⟩ := ih (by' + 1) fu m1 (by omega) (by omega) (by rw [a2 _ (by omega)]; exact h0) a3
    exact ⟨m', b1, fun k hk => by rw [b2 k hk, a2 k hk], b3⟩
theorem measure_ok {P s : Nat} {F : Nat → Nat} (hP : P ≤ 8) (hs : 1 ≤ s) (hs9 : s ≤ 9) (h9 : ∀ k, k < 64 → F k ≤ 9) (hw : fwI P 0 (wi F)) {m : Nat → Nat → Int32} (h0 : m 9 0 = nI P) (h3 : m 9 3 = nI s) (h10 : ∀ k, k < 64 → m 10 k = nI (F k)) : ∃ m', F_La_measureWays_9 m = some m' ∧ (∀ k, k ≠ 11 → m' k = m k) ∧ ∀ a b, a < P → b < P → m' 11 (8 * a + b) = wI s (fw (wi F) 8 (8 * a + b)) := by
  have hfu := qFU_big
  obtain ⟨m1, a1, a2, a3⟩ := w2_loop (s := s) hP h9 P 0 qFU m (by omega) (by omega) h0 h3 h10 (fun a' b' _ _ z => absurd z (by omega))
  obtain ⟨m2, b1, b2, b3⟩ := w79_loop (s := s) hP hs hs9 hw P 0 qFU m1 (by omega) (by omega) (by rw [a2 _ (by omega)]; exact h0) a3
  refine ⟨m2, ?_, fun k hk => by rw [b2 k hk, a2 k hk], fun a b ha hb => ?_⟩
  · unfold F_La_measureWays_9
    rw [show FL_La_measureWays_9_2 qFU m 0 = _ from a1, Option.bind_some, show FL_La_measureWays_9_79 qFU m1 0 = _ from b1]
    rfl
  · have e := fw_end hw ha hb hP (8 - P) (by omega)
    rw [show P + (8 - P) = 8 by omega] at e
    rw [b3 a b ha hb, e]
theorem divk {k : Nat} (hk : k < 64) : nI k / 8 = nI (k / 8) := pk_div (d := 8) (by omega) (by omega) (by omega)
theorem remk {k : Nat} (hk : k < 64) : nI k - nI (k / 8) * 8 = nI (k % 8) := by
  rw [i_8, pk_mul, pk_sub (by omega), show k - k / 8 * 8 = k % 8 by omega]
theorem t79_loop {F : Nat → Nat} (h9 : ∀ k, k < 64 → F k ≤ 9) : ∀ (d k fu : Nat) (n : Nat → Nat → Int32), k + d = 64 → d < fu → (∀ j, j < 64 → n 58 (21 + j) = nI (F j)) → (∀ j, j < k → n 64 j = oI (wi F j)) → ∃ n', FL_Mo_tells_79 fu n (nI k) = some n' ∧ (∀ q, q ≠ 64 → n' q = n q) ∧ ∀ j, j < 64 → n' 64 j = oI (wi F j) := by
  intro d
  induction d with
  | zero =>
    intro k fu n e1 e2 h58 h64
    obtain ⟨fu, rfl⟩ : ∃ f, fu = f + 1 := ⟨fu - 1, by omega⟩
    obtain rfl : k = 64 := by omega
    rw [FL_Mo_tells_79, if_pos (by decide)]
    exact ⟨n, rfl, fun _ _ => rfl, h64⟩
  | succ d ih =>
    intro k fu n e1 e2 h58 h64
    obtain ⟨fu, rfl⟩ : ∃ f, fu = f + 1 := ⟨fu - 1, by omega⟩
    have g1 : ¬ (64 : Int32) ≤ nI k := (nI_ge (by omega) (by omega) : ¬ nI 64 ≤ nI k)
    have f9 := h9 k (by omega)
    rw [FL_Mo_tells_79, if_neg g1, divk (by omega), remk (by omega), i_21, nI_add, q_in_nI (j := k) (by omega) (by omega), q_in_nI (j := 21 + k) (by omega) (by omega), nI_clamp (n := k) (by omega), nI_clamp (n := 21 + k) (by omega), h58 k (by omega), nI_1]
    simp only [cond_true]
    have go : ∀ v, v = oI (wi F k) → ∃ n', FL_Mo_tells_79 fu (q_w n 64 k v) (nI (k + 1)) = some n' ∧ (∀ q, q ≠ 64 → n' q = n q) ∧ ∀ j, j < 64 → n' 64 j = oI (wi F j) := by
      intro v hv
      obtain ⟨n', a1, a2, a3⟩ := ih (k + 1) fu (q_w n 64 k v) (by omega) (by omega) (fun j hj => by rw [q_w_row _ _ _ (by omega)]; exact h58 j hj) (fun j hj => by
        by_cases z : j = k
        · rw [z, q_w_same, hv]
        · rw [q_w_ne _ _ (by omega)]
          exact h64 j (by omega))
      exact ⟨n', a1, fun q hq => by rw [a2 q hq, q_w_row _ _ _ hq], a3⟩
    by_cases z : k / 8 = k % 8
    · rw [if_pos (by rw [z])]
      exact go 0 (by unfold wi; rw [if_pos z]; rfl)
    · rw [if_neg (fun y => z ((nI_eq (by omega) (by omega)).mp y))]
      by_cases y : F k = 0
      · rw [if_pos (show nI (F k) = 0 by rw [y]; rfl)]
        exact go _ (by unfold wi; rw [if_neg z, if_pos y]; rfl)
      · rw [if_neg (nI_ne0 (by omega) (by omega))]
        exact go _ (by unfold wi; rw [if_neg z, if_neg y]; rfl)
theorem t148_loop {P by' : Nat} {w : Nat → Option Nat} (hb : by' < 8) (hw : fwI P by' w) : ∀ (d k fu : Nat) (n : Nat → Nat → Int32), k + d = 64 → d < fu → (∀ j, j < 64 → n 64 j = oI (mxx w by' k j)) → ∃ n', FL_Mo_tells_148 fu n (nI by') (nI k) = some n' ∧ (∀ q, q ≠ 64 → n' q = n q) ∧ ∀ j, j < 64 → n' 64 j = oI (ph by' w j) := by
  have p9 := pw9 by' (by omega)
  intro d
  induction d with
  | zero =>
    intro k fu n e1 e2 h64
    obtain ⟨fu, rfl⟩ : ∃ f, fu = f + 1 := ⟨fu - 1, by omega⟩
    obtain rfl : k = 64 := by omega
    rw [FL_Mo_tells_148, if_pos (by decide)]
    refine ⟨n, rfl, fun _ _ => rfl, fun j hj => ?_⟩
    rw [h64 j hj]
    unfold mxx
    rw [if_pos hj]
  | succ d ih =>
    intro k fu n e1 e2 h64
    obtain ⟨fu, rfl⟩ : ∃ f, fu = f + 1 := ⟨fu - 1, by omega⟩
    have g1 : ¬ (64 : Int32) ≤ nI k := (nI_ge (by omega) (by omega) : ¬ nI 64 ≤ nI k)
    obtain ⟨a, ha⟩ : ∃ a, a = k / 8 := ⟨_, rfl⟩
    obtain ⟨c, hc⟩ : ∃ c, c = k % 8 := ⟨_, rfl⟩
    have hk : k = 8 * a + c := by omega
    have x1 := h64 (8 * a + by') (by omega)
    have x2 := h64 (8 * by' + c) (by omega)
    have x3 := h64 k (by omega)
    rw [mxx_col hw hb] at x1
    rw [mxx_row hw hb (by omega)] at x2
    have x3 : n 64 k = oI (w k) := by
      rw [x3]
      unfold mxx
      rw [if_neg (by omega)]
    have b1 : ∀ v, w (8 * a + by') = some v → v ≤ 2304 := fun v hv => by have := hw.2.2.2.2.1 a by' v (by omega) (by omega) hv; omega
    have b2 : ∀ v, w (8 * by' + c) = some v → v ≤ 2304 := fun v hv => by have := hw.2.2.2.2.1 by' c v (by omega) (by omega) hv; omega
    have b3 : ∀ v, w k = some v → v ≤ 2304 := fun v hv => by rw [hk] at hv; have := hw.2.2.2.2.1 a c v (by omega) (by omega) hv; omega
    have pe : ph by' w k = om (w k) (oa (w (8 * a + by')) (w (8 * by' + c))) := by rw [hk, ph_get by' w (by omega)]
    have step : FL_Mo_tells_148 (fu + 1) n (nI by') (nI k) = FL_Mo_tells_148 fu (q_w n 64 k (oI (ph by' w k))) (nI by') (nI (k + 1)) := by
      rw [FL_Mo_tells_148, if_neg g1, divk (by omega), remk (by omega), ← ha, ← hc, i_8, pk_mul, pk_mul, nI_add, nI_add, Nat.mul_comm a 8, q_in_nI (j := 8 * a + by') (by omega) (by omega), q_in_nI (j := 8 * by' + c) (by omega) (by omega), q_in_nI (j := k) (by omega) (by omega), nI_clamp (n := 8 * a + by') (by omega), nI_clamp (n := 8 * by' + c) (by omega), nI_clamp (n := k) (by omega), x1, x2, x3, nI_1, pe]
      simp only [cond_true]
      cases q1 : w (8 * a + by') with
      | none =>
        rw [oI_none, if_pos rfl]
        rfl
      | some u =>
        have bu := b1 u q1
        rw [oI_some, if_neg (nI_neg9 (by omega))]
        cases q2 : w (8 * by' + c) with
        | none =>
          rw [oI_none, if_pos rfl]
          rfl
        | some v =>
          have bv := b2 v q2
          rw [oI_some, if_neg (nI_neg9 (by omega)), nI_add]
          cases q3 : w k with
          | none =>
            rw [oI_none, if_pos rfl]
            rfl
          | some t =>
            have bt := b3 t q3
            rw [oI_some, if_neg (nI_neg9 (by omega))]
            show _ = FL_Mo_tells_148 fu (q_w n 64 k (oI (if u + v < t then some (u + v) else some t))) (nI by') (nI (k + 1))
            by_cases z : u + v < t
            · rw [if_neg (nI_ge z (by omega)), if_pos z, oI_some]
            · rw [if_pos (nI_le (by omega) (by omega)), if_neg z, oI_some]
    rw [step]
    obtain ⟨n', a1, a2, a3⟩ := ih (k + 1) fu (q_w n 64 k (oI (ph by' w k))) (by omega) (by omega) (fun j hj => by
      by_cases z : j = k
      · rw [z, q_w_same]
        unfold mxx
        rw [if_pos (by omega)]
      · rw [q_w_ne _ _ (by omega), h64 j hj]
        unfold mxx
        by_cases y : j < k
        · rw [if_pos y, if_pos (by omega)]
        · rw [if_neg y, if_neg (by omega)])
    exact ⟨n', a1, fun q hq => by rw [a2 q hq, q_w_row _ _ _ hq], a3⟩
theorem t140_loop {P : Nat} {w : Nat → Option Nat} (hw : fwI P 0 w) : ∀ (d by' fu : Nat) (n : Nat → Nat → Int32), by' + d = 8 → d < fu → (∀ j, j < 64 → n 64 j = oI (fw w by' j)) → ∃ n', FL_Mo_tells_140 fu n (nI by') = some n' ∧ (∀ q, q ≠ 64 → n' q = n q) ∧ ∀ j, j < 64 → n' 64 j = oI (fw w 8 j) := by
  have hfu := qFU_big
  intro d
  induction d with
  | zero =>
    intro by' fu n e1 e2 h64
    obtain ⟨fu, rfl⟩ : ∃ f, fu = f + 1 := ⟨fu - 1, by omega⟩
    obtain rfl : by' = 8 := by omega
    rw [FL_Mo_tells_140, if_pos (by decide)]
    exact ⟨n, rfl, fun _ _ => rfl, h64⟩
  | succ d ih =>
    intro by' fu n e1 e2 h64
    obtain ⟨fu, rfl⟩ : ∃ f, fu = f + 1 := ⟨fu - 1, by omega⟩
    have g1 : ¬ (8 : Int32) ≤ nI by' := (nI_ge (by omega) (by omega) : ¬ nI 8 ≤ nI by')
    obtain ⟨n1, a1, a2, a3⟩ := t148_loop (by' := by') (by omega) (fwI_all hw by' (by omega)) 64 0 qFU n (by omega) (by omega) (fun j hj => by
      rw [h64 j hj]
      unfold mxx
      rw [if_neg (by omega)])
    rw [FL_Mo_tells_140, if_neg g1, show FL_Mo_tells_148 qFU n (nI by') 0 = _ from a1, Option.bind_some, nI_1]
    obtain ⟨n', b1, b2, b3⟩ := ih (by' + 1) fu n1 (by omega) (by omega) a3
    exact ⟨n', b1, fun q hq => by rw [b2 q hq, a2 q hq], b3⟩
theorem t2_loop : ∀ (d j fu : Nat) (n : Nat → Nat → Int32), j + d = 93 → d < fu → ∃ n', FL_Mo_tells_2 fu n (nI j) = some n' ∧ (∀ k, k ≠ 58 → n' k = n k) ∧ (∀ p, j ≤ p → p < 93 → n' 58 p = n 59 p) ∧ ∀ p, p < j → n' 58 p = n 58 p := by
  intro d
  induction d with
  | zero =>
    intro j fu m e1 e2
    obtain ⟨fu, rfl⟩ : ∃ f, fu = f + 1 := ⟨fu - 1, by omega⟩
    obtain rfl : j = 93 := by omega
    rw [FL_Mo_tells_2, if_pos (by decide)]
    exact ⟨m, rfl, fun _ _ => rfl, fun p h1 h2 => absurd h1 (by omega), fun _ _ => rfl⟩
  | succ d ih =>
    intro j fu m e1 e2
    obtain ⟨fu, rfl⟩ : ∃ f, fu = f + 1 := ⟨fu - 1, by omega⟩
    have g1 : ¬ (93 : Int32) ≤ nI j := (nI_ge (by omega) (by omega) : ¬ nI 93 ≤ nI j)
    rw [FL_Mo_tells_2, if_neg g1, q_in_nI (j := j) (by omega) (by omega), nI_clamp (n := j) (by omega), cond_true, cond_true, nI_1]
    obtain ⟨m', a1, a2, a3, a4⟩ := ih (j + 1) fu (q_w m 58 j (m 59 j)) (by omega) (by omega)
    refine ⟨m', a1, fun k hk => by rw [a2 k hk, q_w_row _ _ _ hk], fun p h1 h2 => ?_, fun p hp => by rw [a4 p (by omega), q_w_ne _ _ (by omega)]⟩
    by_cases z : p = j
    · rw [a4 p (by omega), z, q_w_same]
    · rw [a3 p (by omega) h2, q_w_row _ _ _ (by omega)]
theorem t28_loop : ∀ (d j fu : Nat) (n : Nat → Nat → Int32), j + d = 65 → d < fu → ∃ n', FL_Mo_tells_28 fu n (nI j) = some n' ∧ (∀ k, k ≠ 60 → n' k = n k) ∧ (∀ p, j ≤ p → p < 65 → n' 60 p = if p < 57 then 0 else Int32.ofInt (-9)) ∧ ∀ p, p < j → n' 60 p = n 60 p := by
  intro d
  induction d with
  | zero =>
    intro j fu m e1 e2
    obtain ⟨fu, rfl⟩ : ∃ f, fu = f + 1 := ⟨fu - 1, by omega⟩
    obtain rfl : j = 65 := by omega
    rw [FL_Mo_tells_28, if_pos (by decide)]
    exact ⟨m, rfl, fun _ _ => rfl, fun p h1 h2 => absurd h1 (by omega), fun _ _ => rfl⟩
  | succ d ih =>
    intro j fu m e1 e2
    obtain ⟨fu, rfl⟩ : ∃ f, fu = f + 1 := ⟨fu - 1, by omega⟩
    have g1 : ¬ (65 : Int32) ≤ nI j := (nI_ge (by omega) (by omega) : ¬ nI 65 ≤ nI j)
    have st : FL_Mo_tells_28 (fu + 1) m (nI j) = FL_Mo_tells_28 fu (q_w m 60 j (if j < 57 then 0 else Int32.ofInt (-9))) (nI (j + 1)) := by
      rw [FL_Mo_tells_28, if_neg g1, q_in_nI (j := j) (by omega) (by omega), nI_clamp (n := j) (by omega), cond_true, cond_true, nI_1]
      by_cases z : j < 57
      · have g2 : ¬ (57 : Int32) ≤ nI j := (nI_ge (by omega) (by omega) : ¬ nI 57 ≤ nI j)
        rw [if_neg g2, if_pos z]
      · have g2 : (57 : Int32) ≤ nI j := (nI_le (by omega) (by omega) : nI 57 ≤ nI j)
        rw [if_pos g2, if_neg z]
    rw [st]
    obtain ⟨m', a1, a2, a3, a4⟩ := ih (j + 1) fu (q_w m 60 j (if j < 57 then 0 else Int32.ofInt (-9))) (by omega) (by omega)
    refine ⟨m', a1, fun k hk => by rw [a2 k hk, q_w_row _ _ _ hk], fun p h1 h2 => ?_, fun p hp => by rw [a4 p (by omega), q_w_ne _ _ (by omega)]⟩
    by_cases z : p = j
    · rw [a4 p (by omega), z, q_w_same]
    · exact a3 p (by omega) h2
