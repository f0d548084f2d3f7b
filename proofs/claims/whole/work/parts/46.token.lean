/-! the text: one token, both -/
def isl (c : Nat) : Bool := c == 110 || (c == 102 || (c == 118 || (c == 104 || (c == 115 || (c == 116 || (c == 114 || c == 99))))))
def dg (c : Nat) : Bool := decide (48 ≤ c) && decide (c ≤ 57)
theorem isLetter_ok : ∀ c, c < 256 → F_Mo_isLetter (nI c) = some (if isl c = true then 1 else 0) := by decide +kernel
theorem isDigit_ok : ∀ c, c < 256 → F_Mo_isDigit (nI c) = some (if dg c = true then 1 else 0) := by decide +kernel
theorem isDigit_m1 : F_Mo_isDigit (Int32.ofInt (-1)) = some 0 := by decide +kernel
theorem dgl : ∀ c, c < 256 → dg c = true → isl c = false ∧ c ≠ 59 := by decide +kernel
def frC (m m' : Nat → Nat → Int32) : Prop := (∀ k, k ≠ 1 → m' k = m k) ∧ ∀ j, (j < 5 ∨ 5 < j) → m' 1 j = m 1 j
def frM (n n' : Nat → Nat → Int32) : Prop := (∀ k, k ≠ 56 → n' k = n k) ∧ ∀ j, (j < 11 ∨ 14 < j) → n' 56 j = n 56 j
theorem frC.rf (m : Nat → Nat → Int32) : frC m m := ⟨fun _ _ => rfl, fun _ _ => rfl⟩
theorem frM.rf (m : Nat → Nat → Int32) : frM m m := ⟨fun _ _ => rfl, fun _ _ => rfl⟩
theorem frC.tr {a b c : Nat → Nat → Int32} (h1 : frC a b) (h2 : frC b c) : frC a c := ⟨fun k hk => (h2.1 k hk).trans (h1.1 k hk), fun j hj => (h2.2 j hj).trans (h1.2 j hj)⟩
theorem frM.tr {a b c : Nat → Nat → Int32} (h1 : frM a b) (h2 : frM b c) : frM a c := ⟨fun k hk => (h2.1 k hk).trans (h1.1 k hk), fun j hj => (h2.2 j hj).trans (h1.2 j hj)⟩
theorem frC.w {a b : Nat → Nat → Int32} (h1 : frC a b) (x : Int32) : frC a (q_w b 1 5 x) := ⟨fun k hk => by rw [q_w_row _ _ _ hk]; exact h1.1 k hk, fun i hi => by rw [q_w_ne _ _ (by omega)]; exact h1.2 i hi⟩
theorem frM.w {a b : Nat → Nat → Int32} (h1 : frM a b) {j : Nat} (x : Int32) (hj : 11 ≤ j) (hj2 : j ≤ 14) : frM a (q_w b 56 j x) := ⟨fun k hk => by rw [q_w_row _ _ _ hk]; exact h1.1 k hk, fun i hi => by rw [q_w_ne _ _ (by omega)]; exact h1.2 i hi⟩
theorem rText.fr {len : Nat} {tx : Nat → Nat} {m n m' n' : Nat → Nat → Int32} (h : rText len tx m n) (h1 : frC m m') (h2 : frM n n') : rText len tx m' n' := h.of (h1.2 _ (by omega)) (h1.1 _ (by omega)) (h2.2 _ (by omega)) (h2.1 _ (by omega))
theorem letterAt_ok {len : Nat} {tx : Nat → Nat} {m n : Nat → Nat → Int32} (h : rText len tx m n) {j : Nat} (hj : j ≤ 201) : F_Mo_letterAt n (nI j) = some (if j < len then nI (tx j) else Int32.ofInt (-1)) := by
  have l2 := h.2.2.1
  unfold F_Mo_letterAt
  rw [h.2.1]
  by_cases z : j < len
  · rw [if_neg (nI_ge z (by omega)), if_pos z, q_in_nI (by omega) (by omega), nI_clamp (by omega), (h.2.2.2 j z).2.1]
    rfl
  · rw [if_pos (nI_le (by omega) (by omega)), if_neg z]
theorem isFigC_ok {len : Nat} {tx : Nat → Nat} {m n : Nat → Nat → Int32} (h : rText len tx m n) {j : Nat} (hj : j < len) : F_Re_isFigure_1 m (nI j) = some (if dg (tx j) = true then 1 else 0) := by
  have l2 := h.2.2.1
  have c := (h.2.2.2 j hj).2.2
  unfold F_Re_isFigure_1
  rw [q_in_nI (by omega) (by omega), nI_clamp (by omega), (h.2.2.2 j hj).1, cond_true, cond_true, i_48]
  unfold dg
  by_cases z : tx j < 48
  · rw [if_pos (nI_lt z (by omega)), if_neg (by
      have : ¬ 48 ≤ tx j := by omega
      simp [this])]
  · rw [if_neg (nI_nlt (by omega) (by omega)), i_57]
    by_cases y : 57 < tx j
    · rw [if_pos (nI_lt y (by omega)), if_neg (by
        have : ¬ tx j ≤ 57 := by omega
        simp [this])]
    · rw [if_neg (nI_nlt (by omega) (by omega)), if_pos (by
        have h1 : 48 ≤ tx j := by omega
        have h2 : tx j ≤ 57 := by omega
        simp [h1, h2])]
theorem n32 {c : Nat} (h : c < 256) : nI c = 32 ↔ c = 32 := nI_eq (b := 32) (by omega) (by omega)
theorem skipM {len : Nat} {tx : Nat → Nat} : ∀ (d p fv : Nat) (m n : Nat → Nat → Int32), p + d = len → d < fv → rText len tx m n → n 56 11 = nI p → ∃ b n', p ≤ b ∧ b ≤ len ∧ (∀ j, p ≤ j → j < b → tx j = 32) ∧ (b < len → tx b ≠ 32) ∧ FL_Mo_token_0 fv n = some n' ∧ n' 56 11 = nI b ∧ frM n n' := by
  intro d
  induction d with
  | zero =>
    intro p fv m n e1 e3 ht h11
    obtain ⟨fv, rfl⟩ : ∃ f, fv = f + 1 := ⟨fv - 1, by omega⟩
    have l2 := ht.2.2.1
    refine ⟨p, n, by omega, by omega, fun j h1 h2 => absurd h1 (by omega), fun h => absurd h (by omega), ?_, h11, frM.rf _⟩
    rw [FL_Mo_token_0, h11, letterAt_ok ht (by omega), Option.bind_some, if_neg (show ¬ p < len by omega), if_neg (by decide)]
  | succ d ih =>
    intro p fv m n e1 e3 ht h11
    obtain ⟨fv, rfl⟩ : ∃ f, fv = f + 1 := ⟨fv - 1, by omega⟩
    have l2 := ht.2.2.1
    obtain ⟨t1, t2, t3⟩ := ht.2.2.2 p (by omega)
    rw [FL_Mo_token_0, h11, letterAt_ok ht (by omega), Option.bind_some, if_pos (show p < len by omega), nI_1]
    by_cases z : tx p = 32
    · rw [if_pos ((n32 t3).mpr z)]
      have f2 : frM n (q_w n 56 11 (nI (p + 1))) := (frM.rf n).w _ (by omega) (by omega)
      obtain ⟨b, n', a1, a2, a3, a4, a5, a6, a8⟩ := ih (p + 1) fv m (q_w n 56 11 (nI (p + 1))) (by omega) (by omega) (ht.fr (frC.rf _) f2) (q_w_same _ _ _ _)
      refine ⟨b, n', by omega, a2, fun j h1 h2 => ?_, a4, a5, a6, f2.tr a8⟩
      by_cases y : j = p
      · rw [y]; exact z
      · exact a3 j (by omega) h2
    · rw [if_neg (fun y => z ((n32 t3).mp y))]
      exact ⟨p, n, by omega, by omega, fun j h1 h2 => absurd h1 (by omega), fun _ => z, rfl, h11, frM.rf _⟩
/-- where the figures end -/
theorem dig_end (tx : Nat → Nat) (len : Nat) : ∀ d b, b + d = len → ∃ E, b ≤ E ∧ E ≤ len ∧ (∀ j, b ≤ j → j < E → dg (tx j) = true) ∧ (E < len → dg (tx E) = false)
  | 0, b, h => ⟨b, by omega, by omega, fun j h1 h2 => absurd h1 (by omega), fun z => absurd z (by omega)⟩
  | d + 1, b, h => by
    cases hb : dg (tx b) with
    | false => exact ⟨b, by omega, by omega, fun j h1 h2 => absurd h1 (by omega), fun _ => hb⟩
    | true =>
      obtain ⟨E, h1, h2, h3, h4⟩ := dig_end tx len d (b + 1) (by omega)
      refine ⟨E, by omega, h2, fun j h5 h6 => ?_, h4⟩
      by_cases z : j = b
      · rw [z]
        exact hb
      · exact h3 j (by omega) h6
theorem dg_iff (c : Nat) : dg c = true ↔ 48 ≤ c ∧ c ≤ 57 := by
  unfold dg
  simp
/-- the number that the first two figures make -/
def nv (tx : Nat → Nat) (b : Nat) : Nat → Nat
  | 0 => 0
  | 1 => tx b - 48
  | _ + 2 => (tx b - 48) * 10 + (tx (b + 1) - 48)
def gd (tx : Nat → Nat) (b k : Nat) : Bool := decide (k ≤ 1) || (decide (k = 2) && decide (tx b ≠ 48))
theorem digM_loop {len : Nat} {tx : Nat → Nat} {b E : Nat} (hE : E ≤ len) (hd : ∀ j, b ≤ j → j < E → dg (tx j) = true) (hn : E < len → dg (tx E) = false) : ∀ (d j fu : Nat) (m n : Nat → Nat → Int32), j + d = E → d < fu → b < j → rText len tx m n → n 56 13 = nI b → n 56 11 = nI j → n 56 14 = (if gd tx b (j - b) = true then nI (nv tx b (j - b)) else nI 100) → ∃ n', FL_Mo_token_128 fu n (nI (tx b)) (if gd tx b (j - b) = true then 1 else 0) = some n' ∧ n' 56 11 = nI E ∧ n' 56 14 = (if gd tx b (E - b) = true then nI (nv tx b (E - b)) else nI 100) ∧ n' 56 13 = nI b ∧ n' 56 12 = n 56 12 ∧ frM n n' := by
  intro d
  induction d with
  | zero =>
    intro j fu m n e1 e2 e3 ht h13 h11 h14
    obtain ⟨fu, rfl⟩ : ∃ f, fu = f + 1 := ⟨fu - 1, by omega⟩
    have l2 := ht.2.2.1
    obtain rfl : j = E := by omega
    refine ⟨n, ?_, h11, h14, h13, rfl, frM.rf _⟩
    rw [FL_Mo_token_128, h11, letterAt_ok ht (by omega), Option.bind_some]
    by_cases z : j < len
    · rw [if_pos z, isDigit_ok _ (ht.2.2.2 j z).2.2, hn z]
      rfl
    · rw [if_neg z, isDigit_m1]
      rfl
  | succ d ih =>
    intro j fu m n e1 e2 e3 ht h13 h11 h14
    obtain ⟨fu, rfl⟩ : ∃ f, fu = f + 1 := ⟨fu - 1, by omega⟩
    have l2 := ht.2.2.1
    have dj := hd j (by omega) (by omega)
    obtain ⟨d1, d2⟩ := (dg_iff _).mp dj
    obtain ⟨t1, t2, t3⟩ := ht.2.2.2 j (by omega)
    obtain ⟨u1, u2, u3⟩ := ht.2.2.2 b (by omega)
    have bad : gd tx b (j + 1 - b) = false → ∃ n', FL_Mo_token_128 fu (q_w (q_w n 56 14 100) 56 11 (nI (j + 1))) (nI (tx b)) 0 = some n' ∧ n' 56 11 = nI E ∧ n' 56 14 = (if gd tx b (E - b) = true then nI (nv tx b (E - b)) else nI 100) ∧ n' 56 13 = nI b ∧ n' 56 12 = n 56 12 ∧ frM n n' := by
      intro hg
      have f1 : frM n (q_w (q_w n 56 14 100) 56 11 (nI (j + 1))) := ((frM.rf n).w _ (by omega) (by omega)).w _ (by omega) (by omega)
      obtain ⟨n', a1, a2, a3, a4, a5, a6⟩ := ih (j + 1) fu m (q_w (q_w n 56 14 100) 56 11 (nI (j + 1))) (by omega) (by omega) (by omega) (ht.fr (frC.rf _) f1) (by rw [q_w_ne _ _ (by omega), q_w_ne _ _ (by omega)]; exact h13) (q_w_same _ _ _ _) (by rw [q_w_ne _ _ (by omega), q_w_same, hg]; rfl)
      rw [hg] at a1
      exact ⟨n', a1, a2, a3, a4, by rw [a5, q_w_ne _ _ (by omega), q_w_ne _ _ (by omega)], f1.tr a6⟩
    rw [FL_Mo_token_128, h11, letterAt_ok ht (by omega), Option.bind_some, if_pos (show j < len by omega), isDigit_ok _ t3, dj, if_pos rfl, Option.bind_some, if_neg ne1, h13, pk_sub (by omega), nI_1]
    by_cases z : j = b + 1
    · have g1 : gd tx b (j - b) = true := by
        rw [z, show b + 1 - b = 1 by omega]
        rfl
      rw [g1, if_pos rfl, if_neg ne1]
      by_cases y : tx b = 48
      · rw [if_pos (by rw [y]; rfl)]
        exact bad (by rw [z, show b + 1 + 1 - b = 2 by omega]; unfold gd; simp [y])
      · have g2 : gd tx b (j + 1 - b) = true := by
          rw [z, show b + 1 + 1 - b = 2 by omega]
          unfold gd
          simp [y]
        have lt2 : nI (j - b) < nI 2 := nI_lt (by omega) (by omega)
        have v : 10 * n 56 14 + nI (tx j) - 48 = nI (nv tx b (j + 1 - b)) := by
          rw [h14, g1, if_pos rfl, i_10, pk_mul, nI_add, i_48, pk_sub (by omega)]
          congr 1
          rw [z, show b + 1 - b = 1 by omega, show b + 1 + 1 - b = 0 + 2 by omega]
          show 10 * (tx b - 48) + tx (b + 1) - 48 = (tx b - 48) * 10 + (tx (b + 1) - 48)
          rw [z] at d1
          omega
        rw [if_neg (show ¬ nI (tx b) = 48 from fun q => y ((nI_eq (b := 48) (by omega) (by omega)).mp q)), if_neg (show ¬ (2 : Int32) ≤ nI (j - b) from fun q => absurd lt2 (Int32.not_lt.mpr q)), Option.bind_some, v]
        have f1 : frM n (q_w (q_w n 56 14 (nI (nv tx b (j + 1 - b)))) 56 11 (nI (j + 1))) := ((frM.rf n).w _ (by omega) (by omega)).w _ (by omega) (by omega)
        obtain ⟨n', a1, a2, a3, a4, a5, a6⟩ := ih (j + 1) fu m (q_w (q_w n 56 14 (nI (nv tx b (j + 1 - b)))) 56 11 (nI (j + 1))) (by omega) (by omega) (by omega) (ht.fr (frC.rf _) f1) (by rw [q_w_ne _ _ (by omega), q_w_ne _ _ (by omega)]; exact h13) (q_w_same _ _ _ _) (by rw [q_w_ne _ _ (by omega), q_w_same, g2]; rfl)
        rw [g2] at a1
        exact ⟨n', a1, a2, a3, a4, by rw [a5, q_w_ne _ _ (by omega), q_w_ne _ _ (by omega)], f1.tr a6⟩
    · have hg : gd tx b (j + 1 - b) = false := by
        unfold gd
        have h1 : ¬ j + 1 - b ≤ 1 := by omega
        have h2 : ¬ j + 1 - b = 2 := by omega
        simp [h1, h2]
      have ge2 : (2 : Int32) ≤ nI (j - b) := (nI_le (by omega) (by omega) : nI 2 ≤ nI (j - b))
      have B := bad hg
      by_cases y : (if gd tx b (j - b) = true then (1 : Int32) else 0) = 0
      · rw [if_pos y]
        exact B
      · rw [if_neg y]
        by_cases x : nI (tx b) = 48
        · rw [if_pos x]
          exact B
        · rw [if_neg x, if_pos ge2]
          exact B
