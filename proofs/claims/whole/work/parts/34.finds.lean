/-! the reference's way to find them -/
theorem canGo_ok {l : aL} {n : Nat → Nat → Int32} (hk : aLok l) (hm : LMo l n) {K : Nat} (hK : K ≤ 8) {c t : Nat → Nat} (h1 : ∀ i, i < K → n 65 i = nI (c i) ∧ n 66 i = nI (t i)) (hP : ∀ i, i < K → c i < lP l) (hT : ∀ i j, i ≤ j → j < K → t i ≤ t j) (hB : ∀ i, i < K → t i < 2 ^ 20) {i j : Nat} (hij : i ≤ j) (hj : j < K) : F_Mo_canGo n (nI i) (nI j) = some (if can (lW l) (lS l) c t i j then 1 else 0) := by
  have ti := hT i j hij hj
  have tb := hB j hj
  have bd := hk.2.2.2.2.2.2.2.2.2.2.2.2.2.2 (c i) (c j)
  have hs9 := hk.2.2.2.1.2
  unfold F_Mo_canGo
  rw [q_in_nI (j := i) (by omega) (by omega), q_in_nI (j := j) (by omega) (by omega), nI_clamp (n := i) (by omega), nI_clamp (n := j) (by omega), cond_true, cond_true, (h1 i (by omega)).1, (h1 i (by omega)).2, (h1 j hj).1, (h1 j hj).2, wayOf_ok hk hm (hP i (by omega)) (hP j hj), Option.bind_some, cond_true, cond_true, pk_sub ti]
  unfold can
  cases hw : lW l (8 * c i + c j) with
  | none =>
    dsimp only
    rw [if_pos rfl]
    rfl
  | some v =>
    have bv := bd v (hP i (by omega)) (hP j hj) hw
    have b2 : lS l * v ≤ 9 * 2304 := Nat.mul_le_mul hs9 bv
    dsimp only
    rw [if_neg (nI_neg9 (by omega))]
    by_cases h3 : lS l * v + t i ≤ t j
    · rw [if_neg (nI_nlt (by omega) (by omega)), if_pos (by simpa using h3)]
    · rw [if_pos (nI_lt (by omega) (by omega)), if_neg (by simpa using h3)]
/-- a course laid aside -/
def fInv (l : aL) (K : Nat) (c t : Nat → Nat) (n : Nat → Nat → Int32) : Prop := aLok l ∧ LMo l n ∧ K ≤ 8 ∧ n 56 17 = nI K ∧ (∀ i, i < K → n 65 i = nI (c i) ∧ n 66 i = nI (t i)) ∧ (∀ i, i < K → c i < lP l) ∧ (∀ i j, i ≤ j → j < K → t i ≤ t j) ∧ ∀ i, i < K → t i < 2 ^ 20
theorem fInv.fr {l : aL} {K : Nat} {c t : Nat → Nat} {n n' : Nat → Nat → Int32} (h : fInv l K c t n) (e : ∀ k, k ≠ 67 → n' k = n k) : fInv l K c t n' := by
  unfold fInv at h ⊢
  rw [e 56 (by omega), e 65 (by omega), e 66 (by omega)]
  exact ⟨h.1, h.2.1.of (e _ (by omega)) (e _ (by omega)), h.2.2⟩
theorem fitsAt_loop {n : Nat → Nat → Int32} {w : Nat → Nat} {i h : Nat} (hi : i < 8) (hn : ∀ k, k < i → n 67 k = nI (w k)) (hh : n 67 i = nI h) (hw : ∀ k, k < i → w k ≤ us w k) (h9 : h < 9) : ∀ d k fu, k + d = i → d < fu → FL_Mo_fitsAt_8 fu n (nI i) (nI (us w k)) (oI (la w h k)) (nI k) = some (nI (us w i), oI (la w h i)) := by
  intro d
  induction d with
  | zero =>
    intro k fu e1 e2
    obtain ⟨fu, rfl⟩ : ∃ f, fu = f + 1 := ⟨fu - 1, by omega⟩
    obtain rfl : k = i := by omega
    rw [FL_Mo_fitsAt_8, if_pos (nI_le (by omega) (by omega))]
  | succ d ih =>
    intro k fu e1 e2
    obtain ⟨fu, rfl⟩ : ∃ f, fu = f + 1 := ⟨fu - 1, by omega⟩
    have ih := ih (k + 1) fu (by omega) (by omega)
    have uk := us_le k (fun j hj => hw j (by omega))
    have wk := hw k (by omega)
    rw [us, la] at ih
    rw [FL_Mo_fitsAt_8, if_neg (nI_ge (a := k) (b := i) (by omega) (by omega)), q_in_nI (j := k) (by omega) (by omega), q_in_nI (j := i) (by omega) (by omega), nI_clamp (n := k) (by omega), nI_clamp (n := i) (by omega), hn k (by omega), hh, nI_1, nI_1]
    simp only [cond_true]
    by_cases g1 : w k < us w k
    · rw [if_pos (nI_lt g1 (by omega))]
      rw [if_neg (by omega)] at ih
      by_cases g2 : w k = h
      · rw [if_pos g2] at ih
        rw [if_pos (by rw [g2])]
        exact ih
      · rw [if_neg g2] at ih
        rw [if_neg (fun z => g2 ((nI_eq (by omega) (by omega)).mp z))]
        exact ih
    · rw [if_neg (nI_nlt (by omega) (by omega))]
      rw [if_pos (by omega)] at ih
      by_cases g2 : w k = h
      · rw [if_pos g2] at ih
        rw [if_pos (by rw [g2])]
        exact ih
      · rw [if_neg g2] at ih
        rw [if_neg (fun z => g2 ((nI_eq (by omega) (by omega)).mp z))]
        exact ih
theorem fitsAt_ok {l : aL} {K : Nat} {c t : Nat → Nat} {n : Nat → Nat → Int32} (hI : fInv l K c t n) {w : Nat → Nat} {i h : Nat} (hi : i < K) (hn : ∀ k, k < i → n 67 k = nI (w k)) (hh : n 67 i = nI h) (hw : ∀ k, k < i → w k ≤ us w k) (h9 : h < 9) : F_Mo_fitsAt n (nI i) = some (if fit (can (lW l) (lS l) c t) w i h then 1 else 0) := by
  have hK := hI.2.2.1
  have hfu := qFU_big
  have ui := us_le i hw
  unfold F_Mo_fitsAt
  rw [show FL_Mo_fitsAt_8 qFU n (nI i) 0 (Int32.ofInt (-9)) 0 = _ from fitsAt_loop (by omega) hn hh hw h9 i 0 qFU (by omega) (by omega), Option.bind_some]
  dsimp only
  rw [q_in_nI (j := i) (by omega) (by omega), nI_clamp (n := i) (by omega), hh, cond_true]
  by_cases g1 : us w i < h
  · rw [if_pos (nI_lt g1 (by omega)), fit_big g1]
    rfl
  · rw [if_neg (nI_nlt (by omega) (by omega))]
    cases hl : la w h i with
    | none =>
      have e : fit (can (lW l) (lS l) c t) w i h = true := by
        unfold fit
        rw [hl]
        simp [show h ≤ us w i by omega]
      rw [oI_none, if_pos rfl, e]
      rfl
    | some k =>
      have ki := (la_some hl).1
      rw [fit_old (by omega) hl, oI_some, if_neg (nI_neg9 (by omega)), canGo_ok hI.1 hI.2.1 hK hI.2.2.2.2.1 hI.2.2.2.2.2.1 hI.2.2.2.2.2.2.1 hI.2.2.2.2.2.2.2 (by omega) hi, Option.bind_some]
      cases can (lW l) (lS l) c t k i
      · rfl
      · rfl
theorem finds45 {l : aL} {K few : Nat} {c t : Nat → Nat} {w : Nat → Nat} {i : Nat} (hi : i < K) (hw : ∀ k, k < i → w k ≤ us w k) (hf : few ≤ 8) : ∀ (e h fu : Nat) (n : Nat → Nat → Int32), fInv l K c t n → (∀ k, k < i → n 67 k = nI (w k)) → n 67 i = nI h → h + e = few → e < fu → ∃ h' n', h ≤ h' ∧ h' ≤ few ∧ FL_Mo_finds_45 fu n (nI few) (nI i) = some n' ∧ n' 67 i = nI h' ∧ (∀ k, k ≠ 67 → n' k = n k) ∧ (∀ j, j ≠ i → n' 67 j = n 67 j) ∧ (∀ p, h ≤ p → p < h' → fit (can (lW l) (lS l) c t) w i p = false) ∧ (h' = few ∨ fit (can (lW l) (lS l) c t) w i h' = true) := by
  intro e
  induction e with
  | zero =>
    intro h fu n hI hn hh e1 e2
    obtain ⟨fu, rfl⟩ : ∃ f, fu = f + 1 := ⟨fu - 1, by omega⟩
    have hK := hI.2.2.1
    refine ⟨h, n, by omega, by omega, ?_, hh, fun _ _ => rfl, fun _ _ => rfl, fun p h1 h2 => absurd h1 (by omega), Or.inl (by omega)⟩
    rw [FL_Mo_finds_45, q_in_nI (j := i) (by omega) (by omega), nI_clamp (n := i) (by omega), hh, cond_true, if_pos (nI_le (by omega) (by omega))]
  | succ e ih =>
    intro h fu n hI hn hh e1 e2
    obtain ⟨fu, rfl⟩ : ∃ f, fu = f + 1 := ⟨fu - 1, by omega⟩
    have hK := hI.2.2.1
    cases hfit : fit (can (lW l) (lS l) c t) w i h with
    | true =>
      refine ⟨h, n, by omega, by omega, ?_, hh, fun _ _ => rfl, fun _ _ => rfl, fun p h1 h2 => absurd h1 (by omega), Or.inr hfit⟩
      rw [FL_Mo_finds_45, q_in_nI (j := i) (by omega) (by omega), nI_clamp (n := i) (by omega), hh, cond_true, if_neg (nI_ge (by omega) (by omega)), fitsAt_ok hI hi hn hh hw (by omega), hfit]
      rfl
    | false =>
      have hI' : fInv l K c t (q_w n 67 i (nI (h + 1))) := hI.fr (fun k hk => q_w_row _ _ _ hk)
      obtain ⟨h', n', a1, a2, a3, a4, a5, a6, a7, a8⟩ := ih (h + 1) fu (q_w n 67 i (nI (h + 1))) hI' (fun k hk => by rw [q_w_ne _ _ (by omega)]; exact hn k hk) (q_w_same _ _ _ _) (by omega) (by omega)
      refine ⟨h', n', by omega, a2, ?_, a4, fun k hk => by rw [a5 k hk, q_w_row _ _ _ hk], fun j hj => by rw [a6 j hj, q_w_ne _ _ (by omega)], fun p h1 h2 => ?_, a8⟩
      · rw [FL_Mo_finds_45, q_in_nI (j := i) (by omega) (by omega), nI_clamp (n := i) (by omega), hh, cond_true, if_neg (nI_ge (by omega) (by omega)), fitsAt_ok hI hi hn hh hw (by omega), hfit, Option.bind_some, nI_1]
        exact a3
      · by_cases z : p = h
        · rw [z]
          exact hfit
        · exact a7 p (by omega) h2
def bd : Nat → Nat → Nat
  | 0, _ => 0
  | n + 1, u => (u + 1) * (1 + bd n (u + 1)) + 1
theorem bd_mono : ∀ n u, bd n u ≤ bd n (u + 1)
  | 0, _ => Nat.le_refl _
  | n + 1, u => by
    unfold bd
    have h := bd_mono n (u + 1)
    have h2 : (u + 1) * (1 + bd n (u + 1)) ≤ (u + 1 + 1) * (1 + bd n (u + 1 + 1)) := Nat.mul_le_mul (by omega) (by omega)
    omega
theorem bd_8 : ∀ K, K < 9 → bd K 0 < 1000000 := by decide +kernel
theorem finds23 {l : aL} {K few : Nat} {c t : Nat → Nat} (hf : few ≤ 8) : ∀ (N i : Nat) (w : Nat → Nat) (n : Nat → Nat → Int32), i + N = K → fInv l K c t n → (∀ j, j < i → n 67 j = nI (w j)) → (∀ j, i ≤ j → j < 8 → n 67 j = Int32.ofInt (-1)) → (∀ k, k < i → w k ≤ us w k) → ∃ C, C ≤ bd N (us w i) ∧ ∃ n', ((∃ w', fnd (can (lW l) (lS l) c t) few N i w = some w' ∧ (∀ fu, FL_Mo_finds_23 (fu + C) n (nI few) (nI i) = FL_Mo_finds_23 fu n' (nI few) (nI K)) ∧ ∀ j, j < K → n' 67 j = nI (w' j)) ∨ (fnd (can (lW l) (lS l) c t) few N i w = none ∧ (∀ fu, FL_Mo_finds_23 (fu + C) n (nI few) (nI i) = FL_Mo_finds_23 fu n' (nI few) (nI i - 1)) ∧ ∀ j, j < 8 → n' 67 j = n 67 j)) ∧ ∀ k, k ≠ 67 → n' k = n k := by
  intro N
  have hfu := qFU_big
  induction N with
  | zero =>
    intro i w n e1 hI hn hm1 hw
    refine ⟨0, Nat.zero_le _, n, Or.inl ⟨w, rfl, fun fu => ?_, fun j hj => hn j (by omega)⟩, fun _ _ => rfl⟩
    rw [Nat.add_zero, show i = K by omega]
  | succ N ihN =>
    intro i w n e1 hI hn hm1 hw
    have hK := hI.2.2.1
    have ui := us_le i hw
    obtain ⟨f, hfd⟩ : ∃ f : Nat → Option (Nat → Nat), f = fun h => if fit (can (lW l) (lS l) c t) w i h then fnd (can (lW l) (lS l) c t) few N (i + 1) (up1 w i h) else none := ⟨_, rfl⟩
    have ff : ∀ h, fit (can (lW l) (lS l) c t) w i h = false → f h = none := fun h hh => by rw [hfd]; dsimp only; rw [hh]; rfl
    have ft : ∀ h, fit (can (lW l) (lS l) c t) w i h = true → f h = fnd (can (lW l) (lS l) c t) few N (i + 1) (up1 w i h) := fun h hh => by rw [hfd]; dsimp only; rw [hh]; rfl
    have inner : ∀ (B e h : Nat) (n : Nat → Nat → Int32), e ≤ B → h + e = few → fInv l K c t n → (∀ j, j < i → n 67 j = nI (w j)) → n 67 i = nI h - 1 → (∀ j, i < j → j < 8 → n 67 j = Int32.ofInt (-1)) → ∃ C, C ≤ (us w i + 1 - h) * (1 + bd N (us w i + 1)) + 1 ∧ ∃ n', ((∃ w', frst f e h = some w' ∧ (∀ fu, FL_Mo_finds_23 (fu + C) n (nI few) (nI i) = FL_Mo_finds_23 fu n' (nI few) (nI K)) ∧ ∀ j, j < K → n' 67 j = nI (w' j)) ∨ (frst f e h = none ∧ (∀ fu, FL_Mo_finds_23 (fu + C) n (nI few) (nI i) = FL_Mo_finds_23 fu n' (nI few) (nI i - 1)) ∧ (∀ j, j ≠ i → j < 8 → n' 67 j = n 67 j) ∧ n' 67 i = Int32.ofInt (-1))) ∧ ∀ k, k ≠ 67 → n' k = n k := by
      intro B
      induction B with
      | zero =>
        intro e h n eB he hI hn hh hm1
        have g0 : ¬ nI i < 0 := nI_pos (by omega)
        have g1 : ¬ nI K ≤ nI i := nI_ge (by omega) (by omega)
        obtain rfl : e = 0 := by omega
        have hinc : nI h - 1 + 1 = nI h := Int32.sub_add_cancel _ _
        obtain ⟨h', n5, a1, a2, a3, a4, a5, a6, a7, a8⟩ := finds45 (l := l) (c := c) (t := t) (w := w) (i := i) (K := K) (few := few) (by omega) hw hf 0 h qFU (q_w n 67 i (nI h)) (hI.fr (fun k hk => q_w_row _ _ _ hk)) (fun k hk => by rw [q_w_ne _ _ (by omega)]; exact hn k hk) (q_w_same _ _ _ _) (by omega) (by omega)
        have hm : nI i + Int32.ofInt (-1) = nI i - 1 := by
          rw [Int32.sub_eq_add_neg]
          rfl
        refine ⟨1, by omega, q_w n5 67 i (Int32.ofInt (-1)), Or.inr ⟨rfl, fun fu => ?_, fun j hj _ => by rw [q_w_ne _ _ (by omega), a6 j hj, q_w_ne _ _ (by omega)], q_w_same _ _ _ _⟩, fun k hk => by rw [q_w_row _ _ _ hk, a5 k hk, q_w_row _ _ _ hk]⟩
        rw [FL_Mo_finds_23, if_neg g0, hI.2.2.2.1, if_neg g1, q_in_nI (j := i) (by omega) (by omega), nI_clamp (n := i) (by omega), hh, hinc, a3, cond_true, cond_true, Option.bind_some, cond_true, a4, if_pos (nI_le (by omega) (by omega)), cond_true, hm]
      | succ B ihB =>
        intro e h n eB he hI hn hh hm1
        have g0 : ¬ nI i < 0 := nI_pos (by omega)
        have g1 : ¬ nI K ≤ nI i := nI_ge (by omega) (by omega)
        have hinc : nI h - 1 + 1 = nI h := Int32.sub_add_cancel _ _
        have hm : nI i + Int32.ofInt (-1) = nI i - 1 := by
          rw [Int32.sub_eq_add_neg]
          rfl
        obtain ⟨h', n5, a1, a2, a3, a4, a5, a6, a7, a8⟩ := finds45 (l := l) (c := c) (t := t) (w := w) (i := i) (K := K) (few := few) (by omega) hw hf e h qFU (q_w n 67 i (nI h)) (hI.fr (fun k hk => q_w_row _ _ _ hk)) (fun k hk => by rw [q_w_ne _ _ (by omega)]; exact hn k hk) (q_w_same _ _ _ _) (by omega) (by omega)
        have hI5 : fInv l K c t n5 := hI.fr (fun k hk => by rw [a5 k hk, q_w_row _ _ _ hk])
        by_cases g2 : h' = few
        · refine ⟨1, by omega, q_w n5 67 i (Int32.ofInt (-1)), Or.inr ⟨?_, fun fu => ?_, fun j hj _ => by rw [q_w_ne _ _ (by omega), a6 j hj, q_w_ne _ _ (by omega)], q_w_same _ _ _ _⟩, fun k hk => by rw [q_w_row _ _ _ hk, a5 k hk, q_w_row _ _ _ hk]⟩
          · apply frst_none
            intro p h1 h2
            exact ff p (a7 p h1 (by omega))
          · rw [FL_Mo_finds_23, if_neg g0, hI.2.2.2.1, if_neg g1, q_in_nI (j := i) (by omega) (by omega), nI_clamp (n := i) (by omega), hh, hinc, a3, cond_true, cond_true, Option.bind_some, cond_true, a4, if_pos (nI_le (by omega) (by omega)), cond_true, hm]
        · have hfit := a8.resolve_left g2
          have hu := fit_le hfit
          have step : ∀ fu, FL_Mo_finds_23 (fu + 1) n (nI few) (nI i) = FL_Mo_finds_23 fu n5 (nI few) (nI (i + 1)) := by
            intro fu
            rw [FL_Mo_finds_23, if_neg g0, hI.2.2.2.1, if_neg g1, q_in_nI (j := i) (by omega) (by omega), nI_clamp (n := i) (by omega), hh, hinc, a3, cond_true, cond_true, Option.bind_some, cond_true, a4, if_neg (nI_ge (by omega) (by omega)), nI_1]
          have skip : frst f e h = frst f (few - h') h' := by
            have := frst_skip (f := f) (h' - h) (few - h') h (fun p h1 h2 => ff p (a7 p h1 (by omega)))
            rw [show h' - h + (few - h') = e by omega, show h + (h' - h) = h' by omega] at this
            exact this
          obtain ⟨C1, b1, n6, b2, b3⟩ := ihN (i + 1) (up1 w i h') n5 (by omega) hI5 (fun j hj => by
            by_cases z : j = i
            · rw [z, up1_same]
              exact a4
            · rw [up1_ne _ _ z, a6 j z, q_w_ne _ _ (by omega)]
              exact hn j (by omega)) (fun j hj h8 => by rw [a6 j (by omega), q_w_ne _ _ (by omega)]; exact hm1 j (by omega) h8) (fun k hk => by
            by_cases z : k = i
            · rw [z, up1_same, us_cg (w := up1 w i h') (v := w) i (fun j hj => up1_ne w h' (by omega))]
              exact hu
            · rw [up1_ne _ _ z, us_cg (w := up1 w i h') (v := w) k (fun j hj => up1_ne w h' (by omega))]
              exact hw k (by omega))
          have b1 : C1 ≤ bd N (us w i + 1) := by
            refine Nat.le_trans b1 ?_
            rw [us_up]
            by_cases z : us w i ≤ h'
            · rw [if_pos z, show h' = us w i by omega]
              exact Nat.le_refl _
            · rw [if_neg z]
              exact bd_mono N _
          have fr6 : ∀ k, k ≠ 67 → n6 k = n k := fun k hk => by rw [b3 k hk, a5 k hk, q_w_row _ _ _ hk]
          have ar : (us w i + 1 - h') * (1 + bd N (us w i + 1)) ≤ (us w i + 1 - h) * (1 + bd N (us w i + 1)) := Nat.mul_le_mul_right _ (by omega)
          have ar2 : (us w i + 1 - h') * (1 + bd N (us w i + 1)) = (us w i + 1 - (h' + 1)) * (1 + bd N (us w i + 1)) + (1 + bd N (us w i + 1)) := by
            rw [show us w i + 1 - h' = (us w i + 1 - (h' + 1)) + 1 by omega, Nat.succ_mul]
          have fs : frst f (few - h') h' = match f h' with
            | some r => some r
            | none => frst f (few - h' - 1) (h' + 1) := by
            obtain ⟨g, hg⟩ : ∃ g, few - h' = g + 1 := ⟨few - h' - 1, by omega⟩
            rw [hg, Nat.add_sub_cancel, frst]
            cases f h' <;> rfl
          rw [skip, fs, ft h' hfit]
          rcases b2 with ⟨w', d1, d2, d3⟩ | ⟨d1, d2, d3⟩
          · rw [d1]
            refine ⟨C1 + 1, by omega, n6, Or.inl ⟨w', rfl, fun fu => ?_, d3⟩, fr6⟩
            rw [← Nat.add_assoc, step, d2]
          · rw [d1]
            dsimp only
            obtain ⟨C2, k1, n7, k2, k3⟩ := ihB (few - h' - 1) (h' + 1) n6 (by omega) (by omega) (hI.fr fr6) (fun j hj => by rw [d3 j (by omega), a6 j (by omega), q_w_ne _ _ (by omega)]; exact hn j hj) (by rw [d3 i (by omega), a4, nI_pred]) (fun j hj h8 => by rw [d3 j h8, a6 j (by omega), q_w_ne _ _ (by omega)]; exact hm1 j hj h8)
            have st2 : ∀ fu, FL_Mo_finds_23 (fu + (C2 + C1 + 1)) n (nI few) (nI i) = FL_Mo_finds_23 (fu + C2) n6 (nI few) (nI i) := by
              intro fu
              rw [← Nat.add_assoc, step, ← Nat.add_assoc, d2, nI_pred]
            refine ⟨C2 + C1 + 1, by omega, n7, ?_, fun k hk => by rw [k3 k hk, fr6 k hk]⟩
            rcases k2 with ⟨w', p1, p2, p3⟩ | ⟨p1, p2, p3, p4⟩
            · exact Or.inl ⟨w', p1, fun fu => by rw [st2, p2], p3⟩
            · exact Or.inr ⟨p1, fun fu => by rw [st2, p2], fun j hj h8 => by rw [p3 j hj h8, d3 j h8, a6 j hj, q_w_ne _ _ (by omega)], p4⟩
    obtain ⟨C, c1, n', c2, c3⟩ := inner few few 0 n (by omega) (by omega) hI hn (by rw [hm1 i (by omega) (by omega)]; decide) (fun j hj h8 => hm1 j (by omega) h8)
    refine ⟨C, by unfold bd; omega, n', ?_, c3⟩
    rw [fnd, ← hfd]
    rcases c2 with ⟨w', p1, p2, p3⟩ | ⟨p1, p2, p3, p4⟩
    · exact Or.inl ⟨w', p1, p2, p3⟩
    · refine Or.inr ⟨p1, p2, fun j h8 => ?_⟩
      by_cases z : j = i
      · rw [z, p4, hm1 i (by omega) (by omega)]
      · exact p3 j z h8
theorem finds2 (a : Int32) : ∀ (d j fu : Nat) (n : Nat → Nat → Int32), j + d = 8 → d < fu → ∃ n', FL_Mo_finds_2 fu n a (nI j) = some n' ∧ (∀ k, k ≠ 67 → n' k = n k) ∧ (∀ p, j ≤ p → p < 8 → n' 67 p = Int32.ofInt (-1)) ∧ ∀ p, p < j → n' 67 p = n 67 p := by
  intro d
  induction d with
  | zero =>
    intro j fu n e1 e2
    obtain ⟨fu, rfl⟩ : ∃ f, fu = f + 1 := ⟨fu - 1, by omega⟩
    obtain rfl : j = 8 := by omega
    rw [FL_Mo_finds_2, if_pos (by decide)]
    exact ⟨n, rfl, fun _ _ => rfl, fun p h1 h2 => absurd h1 (by omega), fun _ _ => rfl⟩
  | succ d ih =>
    intro j fu n e1 e2
    obtain ⟨fu, rfl⟩ : ∃ f, fu = f + 1 := ⟨fu - 1, by omega⟩
    have g1 : ¬ (8 : Int32) ≤ nI j := (nI_ge (by omega) (by omega) : ¬ nI 8 ≤ nI j)
    rw [FL_Mo_finds_2, if_neg g1, q_in_nI (j := j) (by omega) (by omega), nI_clamp (n := j) (by omega), cond_true, nI_1]
    obtain ⟨n', a1, a2, a3, a4⟩ := ih (j + 1) fu (q_w n 67 j (Int32.ofInt (-1))) (by omega) (by omega)
    refine ⟨n', a1, fun k hk => by rw [a2 k hk, q_w_row _ _ _ hk], fun p h1 h2 => ?_, fun p hp => by rw [a4 p (by omega), q_w_ne _ _ (by omega)]⟩
    by_cases z : p = j
    · rw [a4 p (by omega), z, q_w_same]
    · exact a3 p (by omega) h2
def w0 : Nat → Nat := fun _ => 0
theorem finds_ok {l : aL} {K few : Nat} {c t : Nat → Nat} {n : Nat → Nat → Int32} (hf : few ≤ 8) (hI : fInv l K c t n) : ∃ n', ((∃ w', fnd (can (lW l) (lS l) c t) few K 0 w0 = some w' ∧ F_Mo_finds n (nI few) = some (1, n') ∧ ∀ j, j < K → n' 67 j = nI (w' j)) ∨ (fnd (can (lW l) (lS l) c t) few K 0 w0 = none ∧ F_Mo_finds n (nI few) = some (0, n'))) ∧ ∀ k, k ≠ 67 → n' k = n k := by
  have hfu := qFU_big
  have hK := hI.2.2.1
  obtain ⟨n1, a1, a2, a3, a4⟩ := finds2 (nI few) 8 0 qFU n (by omega) (by omega)
  obtain ⟨C, b1, n2, b2, b3⟩ := finds23 hf K 0 w0 n1 (by omega) (hI.fr a2) (fun j hj => absurd hj (by omega)) (fun j _ h8 => a3 j (by omega) h8) (fun k hk => absurd hk (by omega))
  have b8 := bd_8 K (by omega)
  have b1 : C ≤ bd K 0 := b1
  obtain ⟨fu, hfu2⟩ : ∃ fu, qFU = fu + 1 + C := ⟨qFU - 1 - C, by omega⟩
  have fr : ∀ k, k ≠ 67 → n2 k = n k := fun k hk => by rw [b3 k hk, a2 k hk]
  have hI2 : fInv l K c t n2 := hI.fr fr
  refine ⟨n2, ?_, fr⟩
  unfold F_Mo_finds
  rw [show FL_Mo_finds_2 qFU n (nI few) 0 = some n1 from a1, Option.bind_some]
  rcases b2 with ⟨w', c1, c2, c3⟩ | ⟨c1, c2, c3⟩
  · left
    refine ⟨w', c1, ?_, c3⟩
    rw [hfu2, show FL_Mo_finds_23 (fu + 1 + C) n1 (nI few) 0 = _ from c2 (fu + 1), FL_Mo_finds_23, if_neg (nI_pos (by omega)), hI2.2.2.2.1, if_pos (nI_le (by omega) (by omega)), Option.bind_some]
    dsimp only
    rw [hI2.2.2.2.1, if_pos rfl]
  · right
    refine ⟨c1, ?_⟩
    rw [hfu2, show FL_Mo_finds_23 (fu + 1 + C) n1 (nI few) 0 = _ from c2 (fu + 1), FL_Mo_finds_23, if_pos (by decide), Option.bind_some]
    dsimp only
    have e : nI 0 - 1 = Int32.ofInt (-1) := by decide
    rw [hI2.2.2.2.1, e, if_neg (fun z => nI_neg1 (by omega) z.symm)]
/-- the fewest -/
def isFw (G : Nat → Nat → Bool) (K fw : Nat) (w' : Nat → Nat) : Prop := fnd G fw K 0 w0 = some w' ∧ fw ≤ K ∧ ∀ p, p < fw → fnd G p K 0 w0 = none
theorem fw_ex (G : Nat → Nat → Bool) (K : Nat) : ∃ fw w', isFw G K fw w' := by
  obtain ⟨k, h1, h2⟩ := pk_least (fun k => (fnd G k K 0 w0).isSome = true) ⟨K, fnd_all G K 0 w0 (by show 0 + K ≤ K; omega)⟩
  obtain ⟨w', hw⟩ := Option.isSome_iff_exists.mp h1
  refine ⟨k, w', hw, ?_, fun p hp => ?_⟩
  · apply Classical.byContradiction
    intro z
    exact h2 K (by omega) (fnd_all G K 0 w0 (by show 0 + K ≤ K; omega))
  · have := h2 p hp
    cases e : fnd G p K 0 w0 with
    | none => rfl
    | some r =>
      rw [e] at this
      exact absurd rfl this
theorem fewest_ref {l : aL} {K fw : Nat} {c t : Nat → Nat} {w' : Nat → Nat} (hF : isFw (can (lW l) (lS l) c t) K fw w') : ∀ (d p fu : Nat) (n : Nat → Nat → Int32), fInv l K c t n → p + d = fw → d < fu → ∃ n', FL_Mo_fewest_13 fu n (nI p) = some (nI fw, n') ∧ (∀ j, j < K → n' 67 j = nI (w' j)) ∧ ∀ k, k ≠ 67 → n' k = n k := by
  intro d
  induction d with
  | zero =>
    intro p fu n hI e1 e2
    obtain ⟨fu, rfl⟩ : ∃ f, fu = f + 1 := ⟨fu - 1, by omega⟩
    obtain rfl : p = fw := by omega
    have hK := hI.2.2.1
    have hle := hF.2.1
    obtain ⟨n', a1, a2⟩ := finds_ok (few := p) (by omega) hI
    rcases a1 with ⟨w2, b1, b2, b3⟩ | ⟨b1, b2⟩
    · have := Option.some.inj (b1.symm.trans hF.1)
      refine ⟨n', ?_, fun j hj => by rw [b3 j hj, this], a2⟩
      rw [FL_Mo_fewest_13, b2, Option.bind_some]
      dsimp only
      rw [if_neg ne1]
    · rw [hF.1] at b1
      exact absurd b1 (by simp)
  | succ d ih =>
    intro p fu n hI e1 e2
    obtain ⟨fu, rfl⟩ : ∃ f, fu = f + 1 := ⟨fu - 1, by omega⟩
    have hK := hI.2.2.1
    have hle := hF.2.1
    obtain ⟨n', a1, a2⟩ := finds_ok (few := p) (by omega) hI
    rcases a1 with ⟨w2, b1, b2, b3⟩ | ⟨b1, b2⟩
    · rw [hF.2.2 p (by omega)] at b1
      exact absurd b1 (by simp)
    · obtain ⟨n2, c1, c2, c3⟩ := ih (p + 1) fu n' (hI.fr a2) (by omega) (by omega)
      refine ⟨n2, ?_, c2, fun k hk => by rw [c3 k hk, a2 k hk]⟩
      rw [FL_Mo_fewest_13, b2, Option.bind_some]
      dsimp only
      rw [if_pos rfl, nI_1]
      exact c1
theorem fewestMo_ok {l : aL} {K fw : Nat} {c t : Nat → Nat} {w' : Nat → Nat} {n : Nat → Nat → Int32} (hF : isFw (can (lW l) (lS l) c t) K fw w') (hI : fInv l K c t n) : ∃ n', F_Mo_fewest n = some (nI fw, n') ∧ (∀ j, j < K → n' 67 j = nI (w' j)) ∧ ∀ k, k ≠ 67 → n' k = n k := by
  have hK := hI.2.2.1
  have hle := hF.2.1
  have hfu := qFU_big
  unfold F_Mo_fewest
  rw [hI.2.2.2.1]
  by_cases e : K = 0
  · obtain ⟨n', a1, a2, a3⟩ := fewest_ref hF fw 0 qFU n hI (by omega) (by omega)
    rw [e, if_pos (show nI 0 = 0 from rfl), show FL_Mo_fewest_13 qFU n 0 = _ from a1]
    exact ⟨n', rfl, by rw [← e]; exact a2, a3⟩
  · have h1 : 1 ≤ fw := by
      apply Classical.byContradiction
      intro z
      have h0 := hF.1
      obtain ⟨k, rfl⟩ : ∃ k, K = k + 1 := ⟨K - 1, by omega⟩
      rw [show fw = 0 by omega, fnd, frst] at h0
      exact absurd h0 (by simp)
    obtain ⟨n', a1, a2, a3⟩ := fewest_ref hF (fw - 1) 1 qFU n hI (by omega) (by omega)
    rw [if_neg (nI_ne0 (by omega) (by omega)), show FL_Mo_fewest_13 qFU n 1 = _ from a1]
    exact ⟨n', rfl, a2, a3⟩
