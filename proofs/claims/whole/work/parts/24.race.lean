/-! points and the race -/
def pcn (w : Nat) : Nat := w % 2 + w / 2 % 2 + w / 4 % 2 + w / 8 % 2 + w / 16 % 2
theorem ones_ok : ∀ w, w < 32 → F_Mo_ones (nI w) = some (nI (pcn w)) := by decide +kernel
theorem bitCount_ok : ∀ w, w < 32 → F_In_bitCount (nI w) = some (nI (pcn w)) := by decide +kernel
theorem E_point {l : aL} {x : aN} {m n : Nat → Nat → Int32} (hl : aLok l ∧ LCl l m ∧ LMo l n) (hx : aNok l x ∧ NCl 15 x m ∧ NMo 60 0 x n) (hr : rRun l x m) (a b : Int32) : ∃ r, F_AT_point m a b = some r ∧ F_Mo_point n a b = some r := by
  have hl0 := hl
  obtain ⟨hk, hc, hm⟩ := hl
  have h8 := hk.2.2.1
  have hP : lK l < 2 ^ 30 := by omega
  unfold F_AT_point F_Mo_point
  rcases ix a (lK l) hP with h | ⟨i, hi, rfl⟩
  · rw [hasPoint_bad hr.1 hP h, isPoint_bad hm.2.2.1 hP h]
    exact ⟨_, rfl, rfl⟩
  · rw [hasPoint_ok hr.1 hP hi, isPoint_ok hm.2.2.1 hP hi, Option.bind_some, Option.bind_some, if_neg ne1, if_neg ne1]
    obtain ⟨r1, r2, r3⟩ := hr.2 i hi
    rcases in_lit b 0 5 (by decide) (by decide) with ⟨h1, h2⟩ | ⟨h1, j, h2, h3, rfl⟩
    · have h1 : F_Mo_in b 0 5 = some 0 := h1
      rw [h1]
      have e : ∀ k, k ≤ 5 → ¬ b = nI k := fun k hk z => h2 ⟨by rw [z]; exact nI_le (by omega) (by omega), by rw [z]; exact nI_le hk (by omega)⟩
      rw [if_neg (show ¬ b = 0 from e 0 (by omega)), if_neg (show ¬ b = 1 from e 1 (by omega)), if_neg (show ¬ b = 2 from e 2 (by omega)), if_neg (show ¬ b = 3 from e 3 (by omega)), if_neg (show ¬ b = 4 from e 4 (by omega)), if_neg (show ¬ b = 5 from e 5 (by omega))]
      exact ⟨_, rfl, rfl⟩
    · have h1 : F_Mo_in (nI j) 0 5 = some 1 := h1
      rw [h1, Option.bind_some, if_neg ne1]
      have hw := hx.2.2.1.2.2 i (by omega)
      have hs := hx.2.2.2 i (by omega)
      rw [Nat.zero_add] at hw hs
      rw [i_13, i_49, i_57, nI_add, nI_add, nI_add, q_in_nI (j := i) (by omega) (by omega), q_in_nI (j := 13 + i) (by omega) (by omega), q_in_nI (j := 49 + i) (by omega) (by omega), q_in_nI (j := 57 + i) (by omega) (by omega), nI_clamp (n := i) (by omega), nI_clamp (n := 13 + i) (by omega), nI_clamp (n := 49 + i) (by omega), nI_clamp (n := 57 + i) (by omega), hw, hs, hm.2.2.2.2.2.2.2.2.2.2 i hi, r1, r2, hx.2.1.2.2.1 i (by omega), hx.2.1.2.2.2 i (by omega), comes_ok hk hm hx.2.2.1 hi]
      obtain ⟨v, v0, v1, v2⟩ := meets_eq hl0 hx hr hi
      obtain ⟨w, w0, w1, w2⟩ := sees_eq hl0 hx hr hi
      rw [v1, v2, w1, w2]
      obtain rfl | rfl | rfl | rfl | rfl | rfl : j = 0 ∨ j = 1 ∨ j = 2 ∨ j = 3 ∨ j = 4 ∨ j = 5 := by omega
      all_goals exact ⟨_, rfl, rfl⟩
theorem E_sat {l : aL} {x : aN} {m n : Nat → Nat → Int32} (hx : aNok l x ∧ NCl 15 x m ∧ NMo 60 0 x n) (a b : Int32) : ∃ r, F_AT_sat m a b = some r ∧ F_Mo_sat n a b = some r := by
  have h8 := hx.1.1
  have hP : xC x < 2 ^ 30 := by omega
  have e0 : n 60 0 = nI (xC x) := hx.2.2.1.1
  unfold F_AT_sat F_Mo_sat
  rw [hx.2.1.1, e0]
  rcases ix a (xC x) hP with h | ⟨i, hi, rfl⟩
  · rw [in_bad hP h]
    by_cases h0 : a < 0
    · rw [if_pos h0]
      exact ⟨_, rfl, rfl⟩
    · rw [if_neg h0, if_neg (by rw [Int32.not_lt]; exact h.resolve_left h0)]
      exact ⟨_, rfl, rfl⟩
  · rw [in_ok hP hi, Option.bind_some, if_neg ne1, if_neg (nI_pos (by omega)), if_pos (nI_lt hi (by omega))]
    obtain ⟨c1, c2, c3, c4⟩ := hx.2.1.2.1 i hi
    obtain ⟨n1, n2, n3, n4⟩ := hx.2.2.1.2.1 i hi
    rw [Nat.zero_add] at n1 n2 n3 n4
    rcases in_lit b 0 3 (by decide) (by decide) with ⟨h1, h2⟩ | ⟨h1, j, h2, h3, rfl⟩
    · have h1 : F_Mo_in b 0 3 = some 0 := h1
      rw [h1]
      have e : ∀ k, k ≤ 3 → ¬ b = nI k := fun k hk z => h2 ⟨by rw [z]; exact nI_le (by omega) (by omega), by rw [z]; exact nI_le hk (by omega)⟩
      rw [if_neg (show ¬ b = 0 from e 0 (by omega)), if_neg (show ¬ b = 1 from e 1 (by omega)), if_neg (show ¬ b = 2 from e 2 (by omega)), if_neg (show ¬ b = 3 from e 3 (by omega))]
      exact ⟨_, rfl, rfl⟩
    · have h1 : F_Mo_in (nI j) 0 3 = some 1 := h1
      rw [h1, Option.bind_some, if_neg ne1, i_1, i_12, pk_mul, nI_add, nI_add, q_in_nI (j := i) (by omega) (by omega), q_in_nI (j := 1 + 12 * j + i) (by omega) (by omega), nI_clamp (n := i) (by omega), nI_clamp (n := 1 + 12 * j + i) (by omega), show m 16 i = _ from c1, show m 17 i = _ from c2, show m 18 i = _ from c3, show m 19 i = _ from c4]
      obtain rfl | rfl | rfl | rfl : j = 0 ∨ j = 1 ∨ j = 2 ∨ j = 3 := by omega
      · exact ⟨_, rfl, by rw [show 1 + 12 * 0 + i = 1 + i by omega, n1]; rfl⟩
      · exact ⟨_, rfl, by rw [show 1 + 12 * 1 + i = 13 + i by omega, n2]; rfl⟩
      · exact ⟨_, rfl, by rw [show 1 + 12 * 2 + i = 25 + i by omega, n3]; rfl⟩
      · exact ⟨_, rfl, by rw [show 1 + 12 * 3 + i = 37 + i by omega, n4]; rfl⟩
/-- the first place of k from i on, or NONE -/
def fsti (p : Nat → Bool) : Nat → Nat → Int32
  | _, 0 => Int32.ofInt (-9)
  | i, k + 1 => if p i then nI i else fsti p (i + 1) k
theorem fsti_succ (p : Nat → Bool) (i k : Nat) : fsti p i (k + 1) = if p i then nI i else fsti p (i + 1) k := rfl
theorem nI_m1 (i : Nat) : nI (i + 1) + Int32.ofInt (-1) = nI (i + 1) - 1 := by
  rw [nI_pred]
  exact pk_m1 i
theorem E_race {l : aL} {x : aN} {hz : Nat} {hs : Nat → aN} {m n : Nat → Nat → Int32} (hl : aLok l ∧ LCl l m ∧ LMo l n) (hx : aNok l x ∧ NCl 15 x m ∧ NMo 60 0 x n) (hr : rRun l x m) (hh : rHist l x hz hs m n) (a : Int32) : ∃ r, F_AT_race m a = some r ∧ F_Mo_race n a = some r := by
  have hl0 := hl
  obtain ⟨hk, hc, hm⟩ := hl
  have h8 := hk.2.2.1
  have h12 := hx.1.1
  have hfu := qFU_big
  -- what is met and seen, by points
  have hM : ∀ i, ∃ v, i < lK l → v < 32 ∧ F_AT_meetingAt m (nI i) = some (nI v) ∧ F_Mo_meets n (nI i) = some (nI v) := by
    intro i
    by_cases h : i < lK l
    · obtain ⟨v, hv⟩ := meets_eq hl0 hx hr h
      exact ⟨v, fun _ => hv⟩
    · exact ⟨0, fun z => absurd z h⟩
  have hV : ∀ i, ∃ v, i < lK l → v < 32 ∧ F_AT_inViewAt m (nI i) = some (nI v) ∧ F_Mo_sees n (nI i) = some (nI v) := by
    intro i
    by_cases h : i < lK l
    · obtain ⟨v, hv⟩ := sees_eq hl0 hx hr h
      exact ⟨v, fun _ => hv⟩
    · exact ⟨0, fun z => absurd z h⟩
  obtain ⟨f, hf⟩ : ∃ f : Nat → Nat, ∀ i, i < lK l → f i < 32 ∧ F_AT_meetingAt m (nI i) = some (nI (f i)) ∧ F_Mo_meets n (nI i) = some (nI (f i)) := ⟨fun i => Classical.choose (hM i), fun i h => Classical.choose_spec (hM i) h⟩
  obtain ⟨g, hg⟩ : ∃ g : Nat → Nat, ∀ i, i < lK l → g i < 32 ∧ F_AT_inViewAt m (nI i) = some (nI (g i)) ∧ F_Mo_sees n (nI i) = some (nI (g i)) := ⟨fun i => Classical.choose (hV i), fun i h => Classical.choose_spec (hV i) h⟩
  have z0 : ∀ v, v < 32 → (nI v = 0 ↔ v = 0) := fun v hv => nI_eq (b := 0) (by omega) (by omega)
  have pc5 : ∀ w, w < 32 → pcn w ≤ 5 := by decide +kernel
  have A1 : ∀ k i fu, i + k = lK l → k < fu → Option.bind (FL_AT_firstEmpty_2 fu m (nI i)) (fun o3 => match o3 with | .inl v0 => some v0 | .inr _ => some (Int32.ofInt (-9))) = some (fsti (fun j => decide (f j = 0)) i k) := by
    intro k
    induction k with
    | zero =>
      intro i fu h1 h2
      obtain ⟨fu, rfl⟩ : ∃ f, fu = f + 1 := ⟨fu - 1, by omega⟩
      rw [FL_AT_firstEmpty_2, hr.1, if_pos (nI_le (by omega) (by omega))]
      rfl
    | succ k ih =>
      intro i fu h1 h2
      obtain ⟨fu, rfl⟩ : ∃ f, fu = f + 1 := ⟨fu - 1, by omega⟩
      obtain ⟨q1, q2, q3⟩ := hf i (by omega)
      rw [FL_AT_firstEmpty_2, hr.1, if_neg (nI_ge (by omega) (by omega)), q2, Option.bind_some]
      rw [fsti_succ]
      by_cases h0 : f i = 0
      · rw [if_pos ((z0 _ q1).mpr h0), if_pos (by simpa using h0)]
        rfl
      · rw [if_neg (fun z => h0 ((z0 _ q1).mp z)), if_neg (by simpa using h0), i_1, nI_add]
        exact ih (i + 1) fu (by omega) (by omega)
  have A2 : ∀ k i fu, i + k = lK l → k < fu → Option.bind (FL_AT_firstDouble_2 fu m (nI i)) (fun o3 => match o3 with | .inl v0 => some v0 | .inr _ => some (Int32.ofInt (-9))) = some (fsti (fun j => decide (2 ≤ pcn (g j))) i k) := by
    intro k
    induction k with
    | zero =>
      intro i fu h1 h2
      obtain ⟨fu, rfl⟩ : ∃ f, fu = f + 1 := ⟨fu - 1, by omega⟩
      rw [FL_AT_firstDouble_2, hr.1, if_pos (nI_le (by omega) (by omega))]
      rfl
    | succ k ih =>
      intro i fu h1 h2
      obtain ⟨fu, rfl⟩ : ∃ f, fu = f + 1 := ⟨fu - 1, by omega⟩
      obtain ⟨q1, q2, q3⟩ := hg i (by omega)
      have p5 := pc5 _ q1
      rw [FL_AT_firstDouble_2, hr.1, if_neg (nI_ge (by omega) (by omega)), q2, Option.bind_some, bitCount_ok _ q1, Option.bind_some]
      rw [fsti_succ]
      by_cases h0 : 2 ≤ pcn (g i)
      · rw [if_neg (show ¬ nI (pcn (g i)) < 2 from nI_nlt h0 (by omega)), if_pos (by simpa using h0)]
        rfl
      · rw [if_pos (show nI (pcn (g i)) < 2 from (nI_lt (b := 2) (by omega) (by omega) : nI (pcn (g i)) < nI 2)), if_neg (by simpa using h0), i_1, nI_add]
        exact ih (i + 1) fu (by omega) (by omega)
  have A3 : ∀ k i fu fv s, i + k = lK l → k < fu → k < fv → ∃ v, FL_AT_sittingInVain_10 fu m s (nI i) = some v ∧ FL_Mo_vain_35 fv n s (nI i) = some v := by
    intro k
    induction k with
    | zero =>
      intro i fu fv s h1 h2 h3
      obtain ⟨fu, rfl⟩ : ∃ f, fu = f + 1 := ⟨fu - 1, by omega⟩
      obtain ⟨fv, rfl⟩ : ∃ f, fv = f + 1 := ⟨fv - 1, by omega⟩
      rw [FL_AT_sittingInVain_10, FL_Mo_vain_35, hr.1, hm.2.2.1, if_pos (nI_le (by omega) (by omega)), if_pos (nI_le (by omega) (by omega))]
      exact ⟨_, rfl, rfl⟩
    | succ k ih =>
      intro i fu fv s h1 h2 h3
      obtain ⟨fu, rfl⟩ : ∃ f, fu = f + 1 := ⟨fu - 1, by omega⟩
      obtain ⟨fv, rfl⟩ : ∃ f, fv = f + 1 := ⟨fv - 1, by omega⟩
      obtain ⟨q1, q2, q3⟩ := hf i (by omega)
      have e : ¬ nI (lK l) ≤ nI i := nI_ge (by omega) (by omega)
      rw [FL_AT_sittingInVain_10, FL_Mo_vain_35, hr.1, hm.2.2.1, if_neg e, if_neg e, q2, q3, Option.bind_some, Option.bind_some, i_1, nI_add]
      exact ih (i + 1) fu fv _ (by omega) (by omega) (by omega)
  have A4 : ∀ k i fu fv s, i + k = xC x → k < fu → k < fv → ∃ v, FL_No_sittersAnywhere_15_4 fu m s (nI i) = some v ∧ FL_Mo_vain_4 fv n s (nI i) = some v := by
    intro k
    induction k with
    | zero =>
      intro i fu fv s h1 h2 h3
      obtain ⟨fu, rfl⟩ : ∃ f, fu = f + 1 := ⟨fu - 1, by omega⟩
      obtain ⟨fv, rfl⟩ : ∃ f, fv = f + 1 := ⟨fv - 1, by omega⟩
      rw [FL_No_sittersAnywhere_15_4, FL_Mo_vain_4, hx.2.1.1, show n 60 0 = nI (xC x) from hx.2.2.1.1, if_pos (nI_le (by omega) (by omega)), if_pos (nI_le (by omega) (by omega))]
      exact ⟨_, rfl, rfl⟩
    | succ k ih =>
      intro i fu fv s h1 h2 h3
      obtain ⟨fu, rfl⟩ : ∃ f, fu = f + 1 := ⟨fu - 1, by omega⟩
      obtain ⟨fv, rfl⟩ : ∃ f, fv = f + 1 := ⟨fv - 1, by omega⟩
      obtain ⟨c1, c2, c3, c4⟩ := hx.2.1.2.1 i (by omega)
      obtain ⟨n1, n2, n3, n4⟩ := hx.2.2.1.2.1 i (by omega)
      rw [Nat.zero_add] at n1
      have e : ¬ nI (xC x) ≤ nI i := nI_ge (by omega) (by omega)
      rw [FL_No_sittersAnywhere_15_4, FL_Mo_vain_4, hx.2.1.1, show n 60 0 = nI (xC x) from hx.2.2.1.1, if_neg e, if_neg e, i_1, nI_add, nI_add, q_in_nI (j := i) (by omega) (by omega), q_in_nI (j := 1 + i) (by omega) (by omega), nI_clamp (n := i) (by omega), nI_clamp (n := 1 + i) (by omega), show m 16 i = _ from c1, n1]
      exact ih (i + 1) fu fv _ (by omega) (by omega) (by omega)
  have A5 : ∀ i fu, i ≤ lK l → i < fu → ∀ a, FL_Mo_race_27 fu n a (fsti (fun j => decide (f j = 0)) i (lK l - i)) (fsti (fun j => decide (2 ≤ pcn (g j))) i (lK l - i)) (nI i - 1) = some (fsti (fun j => decide (f j = 0)) 0 (lK l), fsti (fun j => decide (2 ≤ pcn (g j))) 0 (lK l)) := by
    intro i
    induction i with
    | zero =>
      intro fu h1 h2 a
      obtain ⟨fu, rfl⟩ : ∃ f, fu = f + 1 := ⟨fu - 1, by omega⟩
      rw [FL_Mo_race_27, if_pos (by decide)]
      rfl
    | succ i ih =>
      intro fu h1 h2 a
      obtain ⟨fu, rfl⟩ : ∃ f, fu = f + 1 := ⟨fu - 1, by omega⟩
      obtain ⟨q1, q2, q3⟩ := hf i (by omega)
      obtain ⟨q4, q5, q6⟩ := hg i (by omega)
      have p5 := pc5 _ q4
      have e1 : lK l - i = (lK l - (i + 1)) + 1 := by omega
      have ih := ih fu (by omega) (by omega) a
      rw [e1] at ih
      rw [fsti_succ, fsti_succ] at ih
      have hm1 : nI i + Int32.ofInt (-1) = nI i - 1 := by
        rw [Int32.sub_eq_add_neg]
        rfl
      rw [FL_Mo_race_27, nI_pred, if_neg (nI_pos (by omega)), q3, q6, Option.bind_some, Option.bind_some, Option.bind_some, ones_ok _ q4, Option.bind_some, Option.bind_some, hm1]
      by_cases h0 : f i = 0
      · rw [if_pos ((z0 _ q1).mpr h0)]
        rw [if_pos (show (decide (f i = 0)) = true by simpa using h0)] at ih
        by_cases h3 : 2 ≤ pcn (g i)
        · rw [if_neg (show ¬ nI (pcn (g i)) ≤ 1 from (nI_ge (a := 1) (by omega) (by omega) : ¬ nI (pcn (g i)) ≤ nI 1))]
          rw [if_pos (show (decide (2 ≤ pcn (g i))) = true by simpa using h3)] at ih
          exact ih
        · rw [if_pos (show nI (pcn (g i)) ≤ 1 from (nI_le (b := 1) (by omega) (by omega) : nI (pcn (g i)) ≤ nI 1))]
          rw [if_neg (show ¬ (decide (2 ≤ pcn (g i))) = true by simpa using h3)] at ih
          exact ih
      · rw [if_neg (fun z => h0 ((z0 _ q1).mp z))]
        rw [if_neg (show ¬ (decide (f i = 0)) = true by simpa using h0)] at ih
        by_cases h3 : 2 ≤ pcn (g i)
        · rw [if_neg (show ¬ nI (pcn (g i)) ≤ 1 from (nI_ge (a := 1) (by omega) (by omega) : ¬ nI (pcn (g i)) ≤ nI 1))]
          rw [if_pos (show (decide (2 ≤ pcn (g i))) = true by simpa using h3)] at ih
          exact ih
        · rw [if_pos (show nI (pcn (g i)) ≤ 1 from (nI_le (b := 1) (by omega) (by omega) : nI (pcn (g i)) ≤ nI 1))]
          rw [if_neg (show ¬ (decide (2 ≤ pcn (g i))) = true by simpa using h3)] at ih
          exact ih
  have B5 := A5 (lK l) qFU (by omega) (by omega) a
  rw [Nat.sub_self] at B5
  have B5 : FL_Mo_race_27 qFU n a (Int32.ofInt (-9)) (Int32.ofInt (-9)) (nI (lK l) - 1) = _ := B5
  have B1 := A1 (lK l) 0 qFU (by omega) (by omega)
  have B2 := A2 (lK l) 0 qFU (by omega) (by omega)
  have B1 : F_AT_firstEmpty m = some (fsti (fun j => decide (f j = 0)) 0 (lK l)) := by
    unfold F_AT_firstEmpty
    exact B1
  have B2 : F_AT_firstDouble m = some (fsti (fun j => decide (2 ≤ pcn (g j))) 0 (lK l)) := by
    unfold F_AT_firstDouble
    exact B2
  unfold F_AT_race F_Mo_race
  rcases in_lit a 0 4 (by decide) (by decide) with ⟨h1, h2⟩ | ⟨h1, j, h2, h3, rfl⟩
  · have h1 : F_Mo_in a 0 4 = some 0 := h1
    rw [h1]
    have e : ∀ k, k ≤ 4 → ¬ a = nI k := fun k hk z => h2 ⟨by rw [z]; exact nI_le (by omega) (by omega), by rw [z]; exact nI_le hk (by omega)⟩
    rw [if_neg (show ¬ a = 0 from e 0 (by omega)), if_neg (show ¬ a = 1 from e 1 (by omega)), if_neg (show ¬ a = 2 from e 2 (by omega)), if_neg (show ¬ a = 3 from e 3 (by omega)), if_neg (show ¬ a = 4 from e 4 (by omega))]
    exact ⟨_, rfl, rfl⟩
  · have h1 : F_Mo_in (nI j) 0 4 = some 1 := h1
    rw [h1, Option.bind_some, if_neg ne1, hm.2.2.1, B5, Option.bind_some]
    obtain rfl | rfl | rfl | rfl | rfl : j = 0 ∨ j = 1 ∨ j = 2 ∨ j = 3 ∨ j = 4 := by omega
    · refine ⟨_, ?_, rfl⟩
      rw [if_pos (by decide)]
      rw [B1]
      rfl
    · refine ⟨_, ?_, rfl⟩
      rw [if_neg (by decide), if_pos (by decide)]
      rw [B2]
      rfl
    · obtain ⟨u, u1, u2⟩ := A4 (xC x) 0 qFU qFU 0 (by omega) (by omega) (by omega)
      obtain ⟨v, v1, v2⟩ := A3 (lK l) 0 qFU qFU u (by omega) (by omega) (by omega)
      refine ⟨v, ?_, ?_⟩
      · rw [if_neg (by decide), if_neg (by decide), if_pos (by decide)]
        unfold F_AT_sittingInVain F_No_sittersAnywhere_15
        rw [show FL_No_sittersAnywhere_15_4 qFU m 0 0 = some u from u1, Option.bind_some, Option.bind_some, show FL_AT_sittingInVain_10 qFU m u 0 = some v from v1]
        rfl
      · dsimp only
        rw [if_neg (by decide), if_neg (by decide), if_pos (by decide)]
        unfold F_Mo_vain
        rw [show FL_Mo_vain_4 qFU n 0 0 = some u from u1 ▸ u2, Option.bind_some, show FL_Mo_vain_35 qFU n u 0 = some v from v2]
        rfl
    · dsimp only
      rw [if_neg (by decide), if_neg (by decide), if_neg (by decide), if_pos (by decide), if_neg (by decide), if_neg (by decide), if_neg (by decide), if_neg (by decide)]
      unfold F_Ru_comesLast_39
      rw [hr.1]
      by_cases h0 : lK l = 0
      · rw [h0, if_pos (by decide), if_pos (by decide)]
        exact ⟨_, rfl, rfl⟩
      · obtain ⟨k, hk1⟩ : ∃ k, lK l = k + 1 := ⟨lK l - 1, by omega⟩
        have e5 := (hr.2 k (by omega)).2.1
        have e6 := comes_ok hk hm hx.2.2.1 (i := k) (by omega)
        rw [hk1, if_neg (show ¬ nI (k + 1) ≤ 0 from nI_nle (by omega) (by omega)), if_neg (show ¬ nI (k + 1) = 0 from nI_ne0 (by omega) (by omega)), nI_pred, q_in_nI (by omega) (by omega), nI_clamp (by omega), e5, e6]
        exact ⟨_, rfl, rfl⟩
    · dsimp only
      rw [if_neg (by decide), if_neg (by decide), if_neg (by decide), if_neg (by decide), if_pos (by decide), if_neg (by decide), if_neg (by decide), if_neg (by decide), if_pos (by decide), hh.2.1, hh.2.2.1]
      exact ⟨_, rfl, rfl⟩
