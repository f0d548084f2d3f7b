/-! who is where: the first row of numbers that will do -/
def us (w : Nat → Nat) : Nat → Nat
  | 0 => 0
  | i + 1 => if us w i ≤ w i then w i + 1 else us w i
def la (w : Nat → Nat) (h : Nat) : Nat → Option Nat
  | 0 => none
  | i + 1 => if w i = h then some i else la w h i
def fit (G : Nat → Nat → Bool) (w : Nat → Nat) (i h : Nat) : Bool := decide (h ≤ us w i) && (match la w h i with | none => true | some k => G k i)
def up1 (w : Nat → Nat) (i h : Nat) : Nat → Nat := fun j => if j = i then h else w j
def frst {α : Type} (f : Nat → Option α) : Nat → Nat → Option α
  | 0, _ => none
  | c + 1, h => match f h with
    | some r => some r
    | none => frst f c (h + 1)
def fnd (G : Nat → Nat → Bool) (few : Nat) : Nat → Nat → (Nat → Nat) → Option (Nat → Nat)
  | 0, _, w => some w
  | n + 1, i, w => frst (fun h => if fit G w i h then fnd G few n (i + 1) (up1 w i h) else none) few 0
theorem up1_same (w : Nat → Nat) (i h : Nat) : up1 w i h i = h := by unfold up1; rw [if_pos rfl]
theorem up1_ne (w : Nat → Nat) {i j : Nat} (h : Nat) (e : j ≠ i) : up1 w i h j = w j := by unfold up1; rw [if_neg e]
theorem us_cg {w v : Nat → Nat} : ∀ i, (∀ j, j < i → w j = v j) → us w i = us v i
  | 0, _ => rfl
  | i + 1, h => by
    unfold us
    rw [us_cg i (fun j hj => h j (by omega)), h i (by omega)]
theorem la_cg {w v : Nat → Nat} (p : Nat) : ∀ i, (∀ j, j < i → w j = v j) → la w p i = la v p i
  | 0, _ => rfl
  | i + 1, h => by
    unfold la
    rw [la_cg p i (fun j hj => h j (by omega)), h i (by omega)]
theorem us_up (w : Nat → Nat) (i h : Nat) : us (up1 w i h) (i + 1) = if us w i ≤ h then h + 1 else us w i := by
  have e : us (up1 w i h) i = us w i := us_cg i (fun j hj => up1_ne w h (by omega))
  rw [us, e, up1_same]
theorem la_up (w : Nat → Nat) (i h p : Nat) : la (up1 w i h) p (i + 1) = if h = p then some i else la w p i := by
  have e : la (up1 w i h) p i = la w p i := la_cg p i (fun j hj => up1_ne w h (by omega))
  rw [la, e, up1_same]
theorem us_gt (w : Nat → Nat) : ∀ i k, k < i → w k < us w i
  | 0, k, h => absurd h (by omega)
  | i + 1, k, h => by
    unfold us
    by_cases e : k = i
    · subst e
      split <;> omega
    · have := us_gt w i k (by omega)
      split <;> omega
theorem us_le {w : Nat → Nat} : ∀ i, (∀ k, k < i → w k ≤ us w k) → us w i ≤ i
  | 0, _ => Nat.le_refl _
  | i + 1, h => by
    have h1 := us_le i (fun k hk => h k (by omega))
    have h2 := h i (by omega)
    unfold us
    split <;> omega
theorem la_some {w : Nat → Nat} {p : Nat} : ∀ {i k}, la w p i = some k → k < i ∧ w k = p
  | 0, k, h => absurd h (by simp [la])
  | i + 1, k, h => by
    unfold la at h
    by_cases e : w i = p
    · rw [if_pos e] at h
      have := Option.some.inj h
      subst this
      exact ⟨by omega, e⟩
    · rw [if_neg e] at h
      have := la_some h
      exact ⟨by omega, this.2⟩
theorem la_top (w : Nat → Nat) (i : Nat) : la w (us w i) i = none := by
  cases h : la w (us w i) i with
  | none => rfl
  | some k =>
    have h1 := la_some h
    have h2 := us_gt w i k h1.1
    omega
theorem la_all {w : Nat → Nat} : ∀ i, (∀ k, k < i → w k ≤ us w k) → ∀ p, p < us w i → ∃ k, la w p i = some k
  | 0, _, p, h => absurd h (by simp [us])
  | i + 1, hw, p, h => by
    unfold la
    by_cases e : w i = p
    · exact ⟨i, by rw [if_pos e]⟩
    · rw [if_neg e]
      refine la_all i (fun k hk => hw k (by omega)) p ?_
      unfold us at h
      have := hw i (by omega)
      split at h <;> omega
theorem frst_none {α : Type} {f : Nat → Option α} : ∀ c h, (∀ p, h ≤ p → p < h + c → f p = none) → frst f c h = none
  | 0, _, _ => rfl
  | c + 1, h, hf => by
    unfold frst
    rw [hf h (by omega) (by omega)]
    exact frst_none c (h + 1) (fun p h1 h2 => hf p (by omega) (by omega))
theorem frst_some {α : Type} {f : Nat → Option α} : ∀ c h, (∃ p, h ≤ p ∧ p < h + c ∧ (f p).isSome = true) → (frst f c h).isSome = true
  | 0, h, ⟨p, h1, h2, _⟩ => absurd h2 (by omega)
  | c + 1, h, ⟨p, h1, h2, h3⟩ => by
    unfold frst
    cases e : f h with
    | some r => rfl
    | none =>
      refine frst_some c (h + 1) ⟨p, ?_, by omega, h3⟩
      by_cases z : p = h
      · subst z
        rw [e] at h3
        exact absurd h3 (by simp)
      · omega
theorem frst_inv {α : Type} {f : Nat → Option α} : ∀ c h, (frst f c h).isSome = true → ∃ p, h ≤ p ∧ p < h + c ∧ (f p).isSome = true
  | 0, h, z => absurd z (by simp [frst])
  | c + 1, h, z => by
    unfold frst at z
    cases e : f h with
    | some r => exact ⟨h, by omega, by omega, by rw [e]; rfl⟩
    | none =>
      rw [e] at z
      obtain ⟨p, h1, h2, h3⟩ := frst_inv c (h + 1) z
      exact ⟨p, by omega, by omega, h3⟩
theorem frst_skip {α : Type} {f : Nat → Option α} : ∀ (d c h : Nat), (∀ p, h ≤ p → p < h + d → f p = none) → frst f (d + c) h = frst f c (h + d)
  | 0, c, h, _ => by rw [Nat.zero_add, Nat.add_zero]
  | d + 1, c, h, hf => by
    rw [show d + 1 + c = d + c + 1 by omega]
    unfold frst
    rw [hf h (by omega) (by omega)]
    dsimp only
    rw [frst_skip d c (h + 1) (fun p h1 h2 => hf p (by omega) (by omega)), show h + 1 + d = h + (d + 1) by omega]
    cases c with
    | zero => rfl
    | succ c => rfl
theorem fit_new (G : Nat → Nat → Bool) (w : Nat → Nat) (i : Nat) : fit G w i (us w i) = true := by
  unfold fit
  rw [la_top]
  simp
theorem fit_big {G : Nat → Nat → Bool} {w : Nat → Nat} {i h : Nat} (e : us w i < h) : fit G w i h = false := by
  unfold fit
  simp [show ¬ h ≤ us w i by omega]
theorem fit_old {G : Nat → Nat → Bool} {w : Nat → Nat} {i h k : Nat} (e : h ≤ us w i) (hk : la w h i = some k) : fit G w i h = G k i := by
  unfold fit
  rw [hk]
  simp [e]
theorem fit_le {G : Nat → Nat → Bool} {w : Nat → Nat} {i h : Nat} (e : fit G w i h = true) : h ≤ us w i := by
  apply Classical.byContradiction
  intro z
  rw [fit_big (by omega)] at e
  exact absurd e (by decide)
/-- more hedgehogs will do, too -/
theorem fnd_mono (G : Nat → Nat → Bool) {few few' : Nat} (hf : few ≤ few') : ∀ n i w, (fnd G few n i w).isSome = true → (fnd G few' n i w).isSome = true
  | 0, _, _, _ => rfl
  | n + 1, i, w, h => by
    unfold fnd at h ⊢
    obtain ⟨p, h1, h2, h3⟩ := frst_inv _ _ h
    refine frst_some _ _ ⟨p, h1, by omega, ?_⟩
    by_cases e : fit G w i p = true
    · rw [if_pos e] at h3 ⊢
      exact fnd_mono G hf n (i + 1) _ h3
    · rw [if_neg e] at h3
      exact absurd h3 (by decide)
theorem fnd_all (G : Nat → Nat → Bool) {few : Nat} : ∀ n i w, us w i + n ≤ few → (fnd G few n i w).isSome = true
  | 0, _, _, _ => rfl
  | n + 1, i, w, h => by
    unfold fnd
    refine frst_some _ _ ⟨us w i, by omega, by omega, ?_⟩
    rw [if_pos (fit_new G w i)]
    refine fnd_all G n (i + 1) _ ?_
    rw [us_up, if_pos (Nat.le_refl _)]
    omega
theorem tell_39 {K few : Nat} (hK : K ≤ 8) (hf : few ≤ 8) {G : Nat → Nat → Bool} : ∀ (n i dn : Nat) (m : Nat → Nat → Int32) (w : Nat → Nat), i + n = K → n < dn → m 39 0 = nI K → (∀ j, j < K → m 42 j = nI (rb (fun p => G p j) j)) → (∀ j, j < i → m 43 j = nI (w j)) → (∀ h k, la w h i = some k → m 44 h = nI k) → (∀ k, k < i → w k ≤ us w k) → ∃ m', ((∃ w', fnd G few n i w = some w' ∧ F_Ru_tellFrom_39 dn m (nI i) (nI (us w i)) (nI few) = some (1, m') ∧ ∀ j, j < K → m' 43 j = nI (w' j)) ∨ (fnd G few n i w = none ∧ F_Ru_tellFrom_39 dn m (nI i) (nI (us w i)) (nI few) = some (0, m') ∧ (∀ j, j < i → m' 43 j = m 43 j) ∧ m' 44 = m 44)) ∧ ∀ k, k ≠ 43 → k ≠ 44 → m' k = m k := by
  have hfu := qFU_big
  intro n
  induction n with
  | zero =>
    intro i dn m w e1 e2 h39 h42 h43 h44 hw
    obtain ⟨dn, rfl⟩ : ∃ d, dn = d + 1 := ⟨dn - 1, by omega⟩
    rw [F_Ru_tellFrom_39, h39, if_neg (nI_nlt (by omega) (by omega))]
    exact ⟨m, Or.inl ⟨w, rfl, rfl, fun j hj => h43 j (by omega)⟩, fun _ _ _ => rfl⟩
  | succ n ih =>
    intro i dn m w e1 e2 h39 h42 h43 h44 hw
    obtain ⟨dn, rfl⟩ : ∃ d, dn = d + 1 := ⟨dn - 1, by omega⟩
    have hu := us_le i hw
    have loop : ∀ c h fu (m : Nat → Nat → Int32), h + c = few → c < fu → m 39 0 = nI K → (∀ j, j < K → m 42 j = nI (rb (fun p => G p j) j)) → (∀ j, j < i → m 43 j = nI (w j)) → (∀ h k, la w h i = some k → m 44 h = nI k) → ∃ m', ((∃ w', frst (fun h => if fit G w i h then fnd G few n (i + 1) (up1 w i h) else none) c h = some w' ∧ FL_Ru_tellFrom_39_13 (F_Ru_tellFrom_39 dn) fu m (nI i) (nI (us w i)) (nI few) (nI h) = some (.inl (1, m')) ∧ ∀ j, j < K → m' 43 j = nI (w' j)) ∨ (frst (fun h => if fit G w i h then fnd G few n (i + 1) (up1 w i h) else none) c h = none ∧ FL_Ru_tellFrom_39_13 (F_Ru_tellFrom_39 dn) fu m (nI i) (nI (us w i)) (nI few) (nI h) = some (.inr m') ∧ (∀ j, j < i → m' 43 j = m 43 j) ∧ m' 44 = m 44)) ∧ ∀ k, k ≠ 43 → k ≠ 44 → m' k = m k := by
      intro c
      induction c with
      | zero =>
        intro h fu m c1 c2 h39 h42 h43 h44
        obtain ⟨fu, rfl⟩ : ∃ d, fu = d + 1 := ⟨fu - 1, by omega⟩
        refine ⟨m, Or.inr ⟨rfl, ?_, fun _ _ => rfl, rfl⟩, fun _ _ _ => rfl⟩
        rw [FL_Ru_tellFrom_39_13, if_pos (nI_le (a := few) (b := h) (by omega) (by omega))]
        split <;> rfl
      | succ c ihc =>
        intro h fu m c1 c2 h39 h42 h43 h44
        obtain ⟨fu, rfl⟩ : ∃ d, fu = d + 1 := ⟨fu - 1, by omega⟩
        by_cases g1 : us w i < h
        · refine ⟨m, Or.inr ⟨?_, ?_, fun _ _ => rfl, rfl⟩, fun _ _ _ => rfl⟩
          · apply frst_none
            intro p h1 h2
            rw [fit_big (by omega)]
            rfl
          · rw [FL_Ru_tellFrom_39_13, if_pos (nI_lt g1 (by omega))]
        · have g2 : ¬ nI (us w i) < nI h := nI_nlt (by omega) (by omega)
          have g3 : ¬ nI few ≤ nI h := nI_ge (by omega) (by omega)
          have g4 : ¬ (8 : Int32) ≤ nI h := (nI_ge (by omega) (by omega) : ¬ nI 8 ≤ nI h)
          -- the way on, when he is set there
          have go : fit G w i h = true → ∃ m', ((∃ w', frst (fun h => if fit G w i h then fnd G few n (i + 1) (up1 w i h) else none) (c + 1) h = some w' ∧ (∀ u', u' = nI (us (up1 w i h) (i + 1)) → (Option.bind (F_Ru_tellFrom_39 dn (q_w (q_w m 43 i (nI h)) 44 h (nI i)) (nI (i + 1)) u' (nI few)) fun x => match x with | (r8, m9) => if r8 = 0 then FL_Ru_tellFrom_39_13 (F_Ru_tellFrom_39 dn) fu (q_w m9 44 h (m 44 h)) (nI i) (nI (us w i)) (nI few) (nI (h + 1)) else some (.inl (1, m9))) = some (.inl (1, m'))) ∧ ∀ j, j < K → m' 43 j = nI (w' j)) ∨ (frst (fun h => if fit G w i h then fnd G few n (i + 1) (up1 w i h) else none) (c + 1) h = none ∧ (∀ u', u' = nI (us (up1 w i h) (i + 1)) → (Option.bind (F_Ru_tellFrom_39 dn (q_w (q_w m 43 i (nI h)) 44 h (nI i)) (nI (i + 1)) u' (nI few)) fun x => match x with | (r8, m9) => if r8 = 0 then FL_Ru_tellFrom_39_13 (F_Ru_tellFrom_39 dn) fu (q_w m9 44 h (m 44 h)) (nI i) (nI (us w i)) (nI few) (nI (h + 1)) else some (.inl (1, m9))) = some (.inr m')) ∧ (∀ j, j < i → m' 43 j = m 43 j) ∧ m' 44 = m 44)) ∧ ∀ k, k ≠ 43 → k ≠ 44 → m' k = m k := by
            intro hfit
            obtain ⟨m1, a1, a2⟩ := ih (i + 1) dn (q_w (q_w m 43 i (nI h)) 44 h (nI i)) (up1 w i h) (by omega) (by omega) (by rw [q_w_row _ _ _ (by omega), q_w_row _ _ _ (by omega)]; exact h39) (fun j hj => by rw [q_w_row _ _ _ (by omega), q_w_row _ _ _ (by omega)]; exact h42 j hj) (fun j hj => by
              rw [q_w_row _ _ _ (by omega)]
              by_cases e : j = i
              · subst e
                rw [q_w_same, up1_same]
              · rw [q_w_ne _ _ (by omega), up1_ne _ _ e]
                exact h43 j (by omega)) (fun p k hp => by
              rw [la_up] at hp
              by_cases e : h = p
              · rw [if_pos e] at hp
                have := Option.some.inj hp
                subst this
                rw [← e, q_w_same]
              · rw [if_neg e] at hp
                rw [q_w_ne _ _ (by omega), q_w_row _ _ _ (by omega)]
                exact h44 p k hp) (fun k hk => by
              by_cases e : k = i
              · rw [e, up1_same, us_cg (w := up1 w i h) (v := w) i (fun j hj => up1_ne w h (by omega))]
                exact Nat.not_lt.mp g1
              · rw [up1_ne _ _ e, us_cg k (fun j hj => up1_ne w h (by omega))]
                exact hw k (by omega))
            rcases a1 with ⟨w', b1, b2, b3⟩ | ⟨b1, b2, b3, b4⟩
            · refine ⟨m1, Or.inl ⟨w', ?_, ?_, b3⟩, fun k k1 k2 => ?_⟩
              · rw [frst, if_pos hfit, b1]
              · intro u' hu'
                rw [hu', b2, Option.bind_some]
                dsimp only
                rw [if_neg ne1]
              · rw [a2 k k1 k2, q_w_row _ _ _ k2, q_w_row _ _ _ k1]
            · have r44 : (q_w m1 44 h (m 44 h)) 44 = m 44 := by
                funext j
                by_cases e : j = h
                · subst e
                  rw [q_w_same]
                · rw [q_w_ne _ _ (by omega), b4, q_w_ne _ _ (by omega), q_w_row _ _ _ (by omega)]
              obtain ⟨m2, c3, c4⟩ := ihc (h + 1) fu (q_w m1 44 h (m 44 h)) (by omega) (by omega) (by rw [q_w_row _ _ _ (by omega), a2 _ (by omega) (by omega), q_w_row _ _ _ (by omega), q_w_row _ _ _ (by omega)]; exact h39) (fun j hj => by rw [q_w_row _ _ _ (by omega), a2 _ (by omega) (by omega), q_w_row _ _ _ (by omega), q_w_row _ _ _ (by omega)]; exact h42 j hj) (fun j hj => by rw [q_w_row _ _ _ (by omega), b3 j (by omega), q_w_row _ _ _ (by omega), q_w_ne _ _ (by omega)]; exact h43 j hj) (fun p k hp => by rw [r44]; exact h44 p k hp)
              have fr : ∀ k, k ≠ 43 → k ≠ 44 → m2 k = m k := fun k k1 k2 => by rw [c4 k k1 k2, q_w_row _ _ _ k2, a2 k k1 k2, q_w_row _ _ _ k2, q_w_row _ _ _ k1]
              have fs : frst (fun h => if fit G w i h then fnd G few n (i + 1) (up1 w i h) else none) (c + 1) h = frst (fun h => if fit G w i h then fnd G few n (i + 1) (up1 w i h) else none) c (h + 1) := by
                rw [frst, if_pos hfit, b1]
              rw [fs]
              rcases c3 with ⟨w', d1, d2, d3⟩ | ⟨d1, d2, d3, d4⟩
              · refine ⟨m2, Or.inl ⟨w', d1, ?_, d3⟩, fr⟩
                intro u' hu'
                rw [hu', b2, Option.bind_some]
                dsimp only
                rw [if_pos rfl]
                exact d2
              · refine ⟨m2, Or.inr ⟨d1, ?_, ?_, ?_⟩, fr⟩
                · intro u' hu'
                  rw [hu', b2, Option.bind_some]
                  dsimp only
                  rw [if_pos rfl]
                  exact d2
                · intro j hj
                  rw [d3 j hj, q_w_row _ _ _ (by omega), b3 j (by omega), q_w_row _ _ _ (by omega), q_w_ne _ _ (by omega)]
                · rw [d4, r44]
          by_cases g5 : h = us w i
          · have hfit : fit G w i h = true := by rw [g5]; exact fit_new G w i
            have ue : nI (us w i + 1) = nI (us (up1 w i h) (i + 1)) := by rw [us_up, if_pos (by omega), g5]
            obtain ⟨m', a1, a2⟩ := go hfit
            refine ⟨m', ?_, a2⟩
            have ee : FL_Ru_tellFrom_39_13 (F_Ru_tellFrom_39 dn) (fu + 1) m (nI i) (nI (us w i)) (nI few) (nI h) = (Option.bind (F_Ru_tellFrom_39 dn (q_w (q_w m 43 i (nI h)) 44 h (nI i)) (nI (i + 1)) (nI (us w i + 1)) (nI few)) fun x => match x with | (r8, m9) => if r8 = 0 then FL_Ru_tellFrom_39_13 (F_Ru_tellFrom_39 dn) fu (q_w m9 44 h (m 44 h)) (nI i) (nI (us w i)) (nI few) (nI (h + 1)) else some (.inl (1, m9))) := by
              rw [FL_Ru_tellFrom_39_13, if_neg g2, if_neg g3, if_neg g4, if_pos (by rw [g5]), q_in_nI (j := h) (by omega) (by omega), q_in_nI (j := i) (by omega) (by omega), nI_clamp (n := h) (by omega), nI_clamp (n := i) (by omega), nI_1, nI_1, nI_1]
              rfl
            rw [ee]
            rcases a1 with ⟨w', b1, b2, b3⟩ | ⟨b1, b2, b3⟩
            · exact Or.inl ⟨w', b1, b2 _ ue, b3⟩
            · exact Or.inr ⟨b1, b2 _ ue, b3⟩
          · obtain ⟨k, hk⟩ := la_all i hw h (by omega)
            have ki := (la_some hk).1
            have g6 : ¬ nI h = nI (us w i) := fun z => g5 ((nI_eq (by omega) (by omega)).mp z)
            have hfo : fit G w i h = G k i := fit_old (by omega) hk
            have rbl : rb (fun p => G p i) i < 2 ^ 31 := Nat.lt_trans (rb_lt _ i) (Nat.pow_lt_pow_right (by omega) (by omega))
            have bt := bit_cases (S := rb (fun p => G p i) i) (i := k) rbl (by omega)
            have tb : (rb (fun p => G p i) i).testBit k = G k i := by
              rw [rb_bit]
              simp [ki]
            rw [tb] at bt
            rcases bt with ⟨t1, t2⟩ | ⟨t1, t2⟩
            · have hfit : fit G w i h = true := by rw [hfo]; exact t1
              have ue : nI (us w i) = nI (us (up1 w i h) (i + 1)) := by rw [us_up, if_neg (by omega)]
              obtain ⟨m', a1, a2⟩ := go hfit
              refine ⟨m', ?_, a2⟩
              have ee : FL_Ru_tellFrom_39_13 (F_Ru_tellFrom_39 dn) (fu + 1) m (nI i) (nI (us w i)) (nI few) (nI h) = (Option.bind (F_Ru_tellFrom_39 dn (q_w (q_w m 43 i (nI h)) 44 h (nI i)) (nI (i + 1)) (nI (us w i)) (nI few)) fun x => match x with | (r8, m9) => if r8 = 0 then FL_Ru_tellFrom_39_13 (F_Ru_tellFrom_39 dn) fu (q_w m9 44 h (m 44 h)) (nI i) (nI (us w i)) (nI few) (nI (h + 1)) else some (.inl (1, m9))) := by
                rw [FL_Ru_tellFrom_39_13, if_neg g2, if_neg g3, if_neg g4, if_neg g6, q_in_nI (j := h) (by omega) (by omega), q_in_nI (j := i) (by omega) (by omega), nI_clamp (n := h) (by omega), nI_clamp (n := i) (by omega), h44 h k hk, h42 i (by omega), t2, if_neg ne1, nI_1, nI_1]
                rfl
              rw [ee]
              rcases a1 with ⟨w', b1, b2, b3⟩ | ⟨b1, b2, b3⟩
              · exact Or.inl ⟨w', b1, b2 _ ue, b3⟩
              · exact Or.inr ⟨b1, b2 _ ue, b3⟩
            · have hfit : fit G w i h = false := by rw [hfo]; exact t1
              have ee : FL_Ru_tellFrom_39_13 (F_Ru_tellFrom_39 dn) (fu + 1) m (nI i) (nI (us w i)) (nI few) (nI h) = FL_Ru_tellFrom_39_13 (F_Ru_tellFrom_39 dn) fu m (nI i) (nI (us w i)) (nI few) (nI (h + 1)) := by
                rw [FL_Ru_tellFrom_39_13, if_neg g2, if_neg g3, if_neg g4, if_neg g6, q_in_nI (j := h) (by omega) (by omega), q_in_nI (j := i) (by omega) (by omega), nI_clamp (n := h) (by omega), nI_clamp (n := i) (by omega), h44 h k hk, h42 i (by omega), t2, if_pos rfl, nI_1]
                rfl
              have fs : frst (fun h => if fit G w i h then fnd G few n (i + 1) (up1 w i h) else none) (c + 1) h = frst (fun h => if fit G w i h then fnd G few n (i + 1) (up1 w i h) else none) c (h + 1) := by
                rw [frst, hfit]
                rfl
              rw [ee, fs]
              exact ihc (h + 1) fu m (by omega) (by omega) h39 h42 h43 h44
    obtain ⟨m', a1, a2⟩ := loop few 0 qFU m (by omega) (by omega) h39 h42 h43 h44
    have g0 : nI i < nI K := nI_lt (by omega) (by omega)
    refine ⟨m', ?_, a2⟩
    rw [F_Ru_tellFrom_39, h39, if_pos g0, fnd]
    rcases a1 with ⟨w', b1, b2, b3⟩ | ⟨b1, b2, b3⟩
    · left
      rw [show FL_Ru_tellFrom_39_13 (F_Ru_tellFrom_39 dn) qFU m (nI i) (nI (us w i)) (nI few) 0 = _ from b2]
      exact ⟨w', b1, rfl, b3⟩
    · right
      rw [show FL_Ru_tellFrom_39_13 (F_Ru_tellFrom_39 dn) qFU m (nI i) (nI (us w i)) (nI few) 0 = _ from b2]
      exact ⟨b1, rfl, b3⟩
theorem tell_46 {K few : Nat} (hK : K ≤ 8) (hf : few ≤ 8) {G : Nat → Nat → Bool} : ∀ (n i dn : Nat) (m : Nat → Nat → Int32) (w : Nat → Nat), i + n = K → n < dn → m 46 0 = nI K → (∀ j, j < K → m 49 j = nI (rb (fun p => G p j) j)) → (∀ j, j < i → m 50 j = nI (w j)) → (∀ h k, la w h i = some k → m 51 h = nI k) → (∀ k, k < i → w k ≤ us w k) → ∃ m', ((∃ w', fnd G few n i w = some w' ∧ F_Ru_tellFrom_46 dn m (nI i) (nI (us w i)) (nI few) = some (1, m') ∧ ∀ j, j < K → m' 50 j = nI (w' j)) ∨ (fnd G few n i w = none ∧ F_Ru_tellFrom_46 dn m (nI i) (nI (us w i)) (nI few) = some (0, m') ∧ (∀ j, j < i → m' 50 j = m 50 j) ∧ m' 51 = m 51)) ∧ ∀ k, k ≠ 50 → k ≠ 51 → m' k = m k := by
  have hfu := qFU_big
  intro n
  induction n with
  | zero =>
    intro i dn m w e1 e2 h39 h42 h43 h44 hw
    obtain ⟨dn, rfl⟩ : ∃ d, dn = d + 1 := ⟨dn - 1, by omega⟩
    rw [F_Ru_tellFrom_46, h39, if_neg (nI_nlt (by omega) (by omega))]
    exact ⟨m, Or.inl ⟨w, rfl, rfl, fun j hj => h43 j (by omega)⟩, fun _ _ _ => rfl⟩
  | succ n ih =>
    intro i dn m w e1 e2 h39 h42 h43 h44 hw
    obtain ⟨dn, rfl⟩ : ∃ d, dn = d + 1 := ⟨dn - 1, by omega⟩
    have hu := us_le i hw
    have loop : ∀ c h fu (m : Nat → Nat → Int32), h + c = few → c < fu → m 46 0 = nI K → (∀ j, j < K → m 49 j = nI (rb (fun p => G p j) j)) → (∀ j, j < i → m 50 j = nI (w j)) → (∀ h k, la w h i = some k → m 51 h = nI k) → ∃ m', ((∃ w', frst (fun h => if fit G w i h then fnd G few n (i + 1) (up1 w i h) else none) c h = some w' ∧ FL_Ru_tellFrom_46_13 (F_Ru_tellFrom_46 dn) fu m (nI i) (nI (us w i)) (nI few) (nI h) = some (.inl (1, m')) ∧ ∀ j, j < K → m' 50 j = nI (w' j)) ∨ (frst (fun h => if fit G w i h then fnd G few n (i + 1) (up1 w i h) else none) c h = none ∧ FL_Ru_tellFrom_46_13 (F_Ru_tellFrom_46 dn) fu m (nI i) (nI (us w i)) (nI few) (nI h) = some (.inr m') ∧ (∀ j, j < i → m' 50 j = m 50 j) ∧ m' 51 = m 51)) ∧ ∀ k, k ≠ 50 → k ≠ 51 → m' k = m k := by
      intro c
      induction c with
      | zero =>
        intro h fu m c1 c2 h39 h42 h43 h44
        obtain ⟨fu, rfl⟩ : ∃ d, fu = d + 1 := ⟨fu - 1, by omega⟩
        refine ⟨m, Or.inr ⟨rfl, ?_, fun _ _ => rfl, rfl⟩, fun _ _ _ => rfl⟩
        rw [FL_Ru_tellFrom_46_13, if_pos (nI_le (a := few) (b := h) (by omega) (by omega))]
        split <;> rfl
      | succ c ihc =>
        intro h fu m c1 c2 h39 h42 h43 h44
        obtain ⟨fu, rfl⟩ : ∃ d, fu = d + 1 := ⟨fu - 1, by omega⟩
        by_cases g1 : us w i < h
        · refine ⟨m, Or.inr ⟨?_, ?_, fun _ _ => rfl, rfl⟩, fun _ _ _ => rfl⟩
          · apply frst_none
            intro p h1 h2
            rw [fit_big (by omega)]
            rfl
          · rw [FL_Ru_tellFrom_46_13, if_pos (nI_lt g1 (by omega))]
        · have g2 : ¬ nI (us w i) < nI h := nI_nlt (by omega) (by omega)
          have g3 : ¬ nI few ≤ nI h := nI_ge (by omega) (by omega)
          have g4 : ¬ (8 : Int32) ≤ nI h := (nI_ge (by omega) (by omega) : ¬ nI 8 ≤ nI h)
          -- the way on, when he is set there
          have go : fit G w i h = true → ∃ m', ((∃ w', frst (fun h => if fit G w i h then fnd G few n (i + 1) (up1 w i h) else none) (c + 1) h = some w' ∧ (∀ u', u' = nI (us (up1 w i h) (i + 1)) → (Option.bind (F_Ru_tellFrom_46 dn (q_w (q_w m 50 i (nI h)) 51 h (nI i)) (nI (i + 1)) u' (nI few)) fun x => match x with | (r8, m9) => if r8 = 0 then FL_Ru_tellFrom_46_13 (F_Ru_tellFrom_46 dn) fu (q_w m9 51 h (m 51 h)) (nI i) (nI (us w i)) (nI few) (nI (h + 1)) else some (.inl (1, m9))) = some (.inl (1, m'))) ∧ ∀ j, j < K → m' 50 j = nI (w' j)) ∨ (frst (fun h => if fit G w i h then fnd G few n (i + 1) (up1 w i h) else none) (c + 1) h = none ∧ (∀ u', u' = nI (us (up1 w i h) (i + 1)) → (Option.bind (F_Ru_tellFrom_46 dn (q_w (q_w m 50 i (nI h)) 51 h (nI i)) (nI (i + 1)) u' (nI few)) fun x => match x with | (r8, m9) => if r8 = 0 then FL_Ru_tellFrom_46_13 (F_Ru_tellFrom_46 dn) fu (q_w m9 51 h (m 51 h)) (nI i) (nI (us w i)) (nI few) (nI (h + 1)) else some (.inl (1, m9))) = some (.inr m')) ∧ (∀ j, j < i → m' 50 j = m 50 j) ∧ m' 51 = m 51)) ∧ ∀ k, k ≠ 50 → k ≠ 51 → m' k = m k := by
            intro hfit
            obtain ⟨m1, a1, a2⟩ := ih (i + 1) dn (q_w (q_w m 50 i (nI h)) 51 h (nI i)) (up1 w i h) (by omega) (by omega) (by rw [q_w_row _ _ _ (by omega), q_w_row _ _ _ (by omega)]; exact h39) (fun j hj => by rw [q_w_row _ _ _ (by omega), q_w_row _ _ _ (by omega)]; exact h42 j hj) (fun j hj => by
              rw [q_w_row _ _ _ (by omega)]
              by_cases e : j = i
              · subst e
                rw [q_w_same, up1_same]
              · rw [q_w_ne _ _ (by omega), up1_ne _ _ e]
                exact h43 j (by omega)) (fun p k hp => by
              rw [la_up] at hp
              by_cases e : h = p
              · rw [if_pos e] at hp
                have := Option.some.inj hp
                subst this
                rw [← e, q_w_same]
              · rw [if_neg e] at hp
                rw [q_w_ne _ _ (by omega), q_w_row _ _ _ (by omega)]
                exact h44 p k hp) (fun k hk => by
              by_cases e : k = i
              · rw [e, up1_same, us_cg (w := up1 w i h) (v := w) i (fun j hj => up1_ne w h (by omega))]
                exact Nat.not_lt.mp g1
              · rw [up1_ne _ _ e, us_cg k (fun j hj => up1_ne w h (by omega))]
                exact hw k (by omega))
            rcases a1 with ⟨w', b1, b2, b3⟩ | ⟨b1, b2, b3, b4⟩
            · refine ⟨m1, Or.inl ⟨w', ?_, ?_, b3⟩, fun k k1 k2 => ?_⟩
              · rw [frst, if_pos hfit, b1]
              · intro u' hu'
                rw [hu', b2, Option.bind_some]
                dsimp only
                rw [if_neg ne1]
              · rw [a2 k k1 k2, q_w_row _ _ _ k2, q_w_row _ _ _ k1]
            · have r44 : (q_w m1 51 h (m 51 h)) 51 = m 51 := by
                funext j
                by_cases e : j = h
                · subst e
                  rw [q_w_same]
                · rw [q_w_ne _ _ (by omega), b4, q_w_ne _ _ (by omega), q_w_row _ _ _ (by omega)]
              obtain ⟨m2, c3, c4⟩ := ihc (h + 1) fu (q_w m1 51 h (m 51 h)) (by omega) (by omega) (by rw [q_w_row _ _ _ (by omega), a2 _ (by omega) (by omega), q_w_row _ _ _ (by omega), q_w_row _ _ _ (by omega)]; exact h39) (fun j hj => by rw [q_w_row _ _ _ (by omega), a2 _ (by omega) (by omega), q_w_row _ _ _ (by omega), q_w_row _ _ _ (by omega)]; exact h42 j hj) (fun j hj => by rw [q_w_row _ _ _ (by omega), b3 j (by omega), q_w_row _ _ _ (by omega), q_w_ne _ _ (by omega)]; exact h43 j hj) (fun p k hp => by rw [r44]; exact h44 p k hp)
              have fr : ∀ k, k ≠ 50 → k ≠ 51 → m2 k = m k := fun k k1 k2 => by rw [c4 k k1 k2, q_w_row _ _ _ k2, a2 k k1 k2, q_w_row _ _ _ k2, q_w_row _ _ _ k1]
              have fs : frst (fun h => if fit G w i h then fnd G few n (i + 1) (up1 w i h) else none) (c + 1) h = frst (fun h => if fit G w i h then fnd G few n (i + 1) (up1 w i h) else none) c (h + 1) := by
                rw [frst, if_pos hfit, b1]
              rw [fs]
              rcases c3 with ⟨w', d1, d2, d3⟩ | ⟨d1, d2, d3, d4⟩
              · refine ⟨m2, Or.inl ⟨w', d1, ?_, d3⟩, fr⟩
                intro u' hu'
                rw [hu', b2, Option.bind_some]
                dsimp only
                rw [if_pos rfl]
                exact d2
              · refine ⟨m2, Or.inr ⟨d1, ?_, ?_, ?_⟩, fr⟩
                · intro u' hu'
                  rw [hu', b2, Option.bind_some]
                  dsimp only
                  rw [if_pos rfl]
                  exact d2
                · intro j hj
                  rw [d3 j hj, q_w_row _ _ _ (by omega), b3 j (by omega), q_w_row _ _ _ (by omega), q_w_ne _ _ (by omega)]
                · rw [d4, r44]
          by_cases g5 : h = us w i
          · have hfit : fit G w i h = true := by rw [g5]; exact fit_new G w i
            have ue : nI (us w i + 1) = nI (us (up1 w i h) (i + 1)) := by rw [us_up, if_pos (by omega), g5]
            obtain ⟨m', a1, a2⟩ := go hfit
            refine ⟨m', ?_, a2⟩
            have ee : FL_Ru_tellFrom_46_13 (F_Ru_tellFrom_46 dn) (fu + 1) m (nI i) (nI (us w i)) (nI few) (nI h) = (Option.bind (F_Ru_tellFrom_46 dn (q_w (q_w m 50 i (nI h)) 51 h (nI i)) (nI (i + 1)) (nI (us w i + 1)) (nI few)) fun x => match x with | (r8, m9) => if r8 = 0 then FL_Ru_tellFrom_46_13 (F_Ru_tellFrom_46 dn) fu (q_w m9 51 h (m 51 h)) (nI i) (nI (us w i)) (nI few) (nI (h + 1)) else some (.inl (1, m9))) := by
              rw [FL_Ru_tellFrom_46_13, if_neg g2, if_neg g3, if_neg g4, if_pos (by rw [g5]), q_in_nI (j := h) (by omega) (by omega), q_in_nI (j := i) (by omega) (by omega), nI_clamp (n := h) (by omega), nI_clamp (n := i) (by omega), nI_1, nI_1, nI_1]
              rfl
            rw [ee]
            rcases a1 with ⟨w', b1, b2, b3⟩ | ⟨b1, b2, b3⟩
            · exact Or.inl ⟨w', b1, b2 _ ue, b3⟩
            · exact Or.inr ⟨b1, b2 _ ue, b3⟩
          · obtain ⟨k, hk⟩ := la_all i hw h (by omega)
            have ki := (la_some hk).1
            have g6 : ¬ nI h = nI (us w i) := fun z => g5 ((nI_eq (by omega) (by omega)).mp z)
            have hfo : fit G w i h = G k i := fit_old (by omega) hk
            have rbl : rb (fun p => G p i) i < 2 ^ 31 := Nat.lt_trans (rb_lt _ i) (Nat.pow_lt_pow_right (by omega) (by omega))
            have bt := bit_cases (S := rb (fun p => G p i) i) (i := k) rbl (by omega)
            have tb : (rb (fun p => G p i) i).testBit k = G k i := by
              rw [rb_bit]
              simp [ki]
            rw [tb] at bt
            rcases bt with ⟨t1, t2⟩ | ⟨t1, t2⟩
            · have hfit : fit G w i h = true := by rw [hfo]; exact t1
              have ue : nI (us w i) = nI (us (up1 w i h) (i + 1)) := by rw [us_up, if_neg (by omega)]
              obtain ⟨m', a1, a2⟩ := go hfit
              refine ⟨m', ?_, a2⟩
              have ee : FL_Ru_tellFrom_46_13 (F_Ru_tellFrom_46 dn) (fu + 1) m (nI i) (nI (us w i)) (nI few) (nI h) = (Option.bind (F_Ru_tellFrom_46 dn (q_w (q_w m 50 i (nI h)) 51 h (nI i)) (nI (i + 1)) (nI (us w i)) (nI few)) fun x => match x with | (r8, m9) => if r8 = 0 then FL_Ru_tellFrom_46_13 (F_Ru_tellFrom_46 dn) fu (q_w m9 51 h (m 51 h)) (nI i) (nI (us w i)) (nI few) (nI (h + 1)) else some (.inl (1, m9))) := by
                rw [FL_Ru_tellFrom_46_13, if_neg g2, if_neg g3, if_neg g4, if_neg g6, q_in_nI (j := h) (by omega) (by omega), q_in_nI (j := i) (by omega) (by omega), nI_clamp (n := h) (by omega), nI_clamp (n := i) (by omega), h44 h k hk, h42 i (by omega), t2, if_neg ne1, nI_1, nI_1]
                rfl
              rw [ee]
              rcases a1 with ⟨w', b1, b2, b3⟩ | ⟨b1, b2, b3⟩
              · exact Or.inl ⟨w', b1, b2 _ ue, b3⟩
              · exact Or.inr ⟨b1, b2 _ ue, b3⟩
            · have hfit : fit G w i h = false := by rw [hfo]; exact t1
              have ee : FL_Ru_tellFrom_46_13 (F_Ru_tellFrom_46 dn) (fu + 1) m (nI i) (nI (us w i)) (nI few) (nI h) = FL_Ru_tellFrom_46_13 (F_Ru_tellFrom_46 dn) fu m (nI i) (nI (us w i)) (nI few) (nI (h + 1)) := by
                rw [FL_Ru_tellFrom_46_13, if_neg g2, if_neg g3, if_neg g4, if_neg g6, q_in_nI (j := h) (by omega) (by omega), q_in_nI (j := i) (by omega) (by omega), nI_clamp (n := h) (by omega), nI_clamp (n := i) (by omega), h44 h k hk, h42 i (by omega), t2, if_pos rfl, nI_1]
                rfl
              have fs : frst (fun h => if fit G w i h then fnd G few n (i + 1) (up1 w i h) else none) (c + 1) h = frst (fun h => if fit G w i h then fnd G few n (i + 1) (up1 w i h) else none) c (h + 1) := by
                rw [frst, hfit]
                rfl
              rw [ee, fs]
              exact ihc (h + 1) fu m (by omega) (by omega) h39 h42 h43 h44
    obtain ⟨m', a1, a2⟩ := loop few 0 qFU m (by omega) (by omega) h39 h42 h43 h44
    have g0 : nI i < nI K := nI_lt (by omega) (by omega)
    refine ⟨m', ?_, a2⟩
    rw [F_Ru_tellFrom_46, h39, if_pos g0, fnd]
    rcases a1 with ⟨w', b1, b2, b3⟩ | ⟨b1, b2, b3⟩
    · left
      rw [show FL_Ru_tellFrom_46_13 (F_Ru_tellFrom_46 dn) qFU m (nI i) (nI (us w i)) (nI few) 0 = _ from b2]
      exact ⟨w', b1, rfl, b3⟩
    · right
      rw [show FL_Ru_tellFrom_46_13 (F_Ru_tellFrom_46 dn) qFU m (nI i) (nI (us w i)) (nI few) 0 = _ from b2]
      exact ⟨b1, rfl, b3⟩
