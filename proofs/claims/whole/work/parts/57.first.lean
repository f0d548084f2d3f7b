/-! the first state -/
theorem q_ex_d (xt : Nat → Nat × (Nat → Int32)) : ∀ (n d mi : Nat) (S : qS) (r : Option Value × qM), q_ex xt n d mi S = some r → q_ex xt n (d + 1) mi S = some r := by
  intro n
  induction n with
  | zero => intro d mi S r h; simp [q_ex] at h
  | succ n ih =>
    intro d mi S r h
    rw [q_ex] at h ⊢
    cases ha : q_act xt mi S with
    | none => rw [ha] at h; cases h
    | some a =>
      rw [ha] at h
      rcases a with S' | v | ⟨mj, As, S'⟩
      · exact ih d mi S' r h
      · exact h
      · cases d with
        | zero => cases h
        | succ d' =>
          dsimp only at h ⊢
          cases hc : q_ex xt n d' mj (0, q_ent mj As, [], S.2.2.2) with
          | none => rw [hc] at h; cases h
          | some w =>
            rw [hc] at h
            rw [ih d' mj _ w hc]
            exact ih (d' + 1) mi _ r h
theorem q_ex_dk (xt : Nat → Nat × (Nat → Int32)) {n d mi : Nat} {S : qS} {r : Option Value × qM} (h : q_ex xt n d mi S = some r) : ∀ k, q_ex xt n (d + k) mi S = some r
  | 0 => h
  | k + 1 => q_ex_d xt n (d + k) mi S r (q_ex_dk xt h k)
theorem okA_ex : ∃ M, q_iA = some (none, M) ∧ M.1 = qSH.take 58 ∧ M.2.2.2.2 = qRH.drop 13 ∧ M.2.2.2.1 0 = 0 ∧ q_rowsok M 0 58 = true := by
  have h := q_okA_t
  obtain ⟨q, hq⟩ : ∃ q, q = q_iA := ⟨_, rfl⟩
  unfold q_okA at h
  rw [← hq] at h ⊢
  cases q with
  | none => exact Bool.noConfusion h
  | some a =>
    obtain ⟨v, M⟩ := a
    cases v with
    | some v => exact Bool.noConfusion h
    | none =>
      have h : (decide (M.1 = qSH.take 58) && (decide (M.2.2.2.2 = qRH.drop 13) && (decide (M.2.2.2.1 0 = 0) && q_rowsok M 0 58))) = true := h
      rw [Bool.and_eq_true, Bool.and_eq_true, Bool.and_eq_true, decide_eq_true_eq, decide_eq_true_eq, decide_eq_true_eq] at h
      exact ⟨M, rfl, h.1, h.2.1, h.2.2.1, h.2.2.2⟩
/-- the cell of a row -/
def eV (k : Nat) : Nat := if k < 9 then k else k + 2
def eC (k j : Nat) : Int32 := (q_eL.getD (eV k) []).getD j 0
def eN (k : Nat) : Nat := (q_eL.getD (eV k) []).length
theorem eV_pm : ∀ k, k < 56 → q_pm (eV k) = k ∧ eV k < 58 := by decide +kernel
theorem row_ok {M : qM} (h : q_rowsok M 0 58 = true) {k j : Nat} (hk : k < 56) (hj : j < eN k) : M.2.1 k j = eC k j := by
  unfold q_rowsok at h
  obtain ⟨v1, v2⟩ := eV_pm k hk
  have h1 := List.all_eq_true.mp h (eV k) (List.mem_range.mpr (by omega))
  rw [Nat.zero_add] at h1
  have h2 := List.all_eq_true.mp h1 j (List.mem_range.mpr hj)
  have h3 : q_row M (eV k) j = eC k j := of_decide_eq_true h2
  rw [← h3]
  unfold q_row
  rw [show Nat.blt (eV k) 58 = true from by simpa using v2, v1]
  rfl
theorem e_a : (1 < eN 1 ∧ eC 1 1 = 0) ∧ (0 < eN 36 ∧ eC 36 0 = 0) ∧ (0 < eN 22 ∧ eC 22 0 = 0) ∧ (0 < eN 29 ∧ eC 29 0 = 0) ∧ (0 < eN 39 ∧ eC 39 0 = 0) ∧ (1 < eN 15 ∧ eC 15 1 = 0) := by decide +kernel
theorem e_9 : 5 < eN 9 ∧ eC 9 0 = 4 ∧ eC 9 1 = 0 ∧ eC 9 2 = 0 ∧ eC 9 3 = 3 ∧ eC 9 4 = 0 ∧ eC 9 5 = 0 := by decide +kernel
theorem e_10 : ∀ k, k < 64 → k < eN 10 ∧ eC 10 k = 0 := by decide +kernel
theorem e_11 : ∀ a, a < 4 → ∀ b, b < 4 → 8 * a + b < eN 11 ∧ eC 11 (8 * a + b) = if a = b then 0 else 1000000 := by decide +kernel
theorem e_12 : ∀ k, k < 8 → k < eN 12 ∧ eC 12 k = 0 := by decide +kernel
theorem e_20 : ∀ k, k < 8 → k < eN 20 ∧ eC 20 k = 0 := by decide +kernel
theorem e_21 : ∀ k, k < 8 → k < eN 21 ∧ eC 21 k = Int32.ofInt (-9) := by decide +kernel
theorem l00_ok : dOk l00 := ⟨⟨by decide, by decide⟩, by decide, by decide, ⟨by decide, by decide⟩, by decide, by decide, fun _ _ => Nat.zero_le 9, fun _ _ => (show 0 < 256 by decide), fun h hh => absurd hh (by show ¬ h < 0; omega), fun i hi => absurd hi (by show ¬ i < 0; omega), fun _ _ _ _ => rfl, fun _ _ _ _ _ => rfl⟩
theorem w00 {a b : Nat} (ha : a < 8) (hb : b < 8) : fw (wi (lF l00)) 8 (8 * a + b) = if a = b then some 0 else none := by
  have I := fwI_all (fwI_0 (P := 0) l00_ok.2.2.2.2.2.2.1 l00_ok.2.2.2.2.2.2.2.2.2.2.1 (fun _ _ _ _ _ => rfl)) 8 (by omega)
  by_cases z : a = b
  · rw [if_pos z, z]
    exact I.1 b hb
  · rw [if_neg z]
    exact I.2.2.2.2.2 a b ha hb z (Or.inl (by omega))
theorem firstA {M : qM} (h : q_rowsok M 0 58 = true) : M.2.1 1 1 = 0 ∧ LCl (lw l00) M.2.1 ∧ NCl 15 xN0 M.2.1 ∧ rRun (lw l00) xN0 M.2.1 ∧ M.2.1 36 0 = 0 ∧ M.2.1 22 0 = 0 ∧ M.2.1 29 0 = 0 := by
  obtain ⟨⟨a1, a2⟩, ⟨b1, b2⟩, ⟨c1, c2⟩, ⟨d1, d2⟩, ⟨f1, f2⟩, ⟨g1, g2⟩⟩ := e_a
  obtain ⟨n9, p0, p1, p2, p3, p4, p5⟩ := e_9
  refine ⟨by rw [row_ok h (by omega) a1, a2], ⟨?_, ?_, ?_, ?_, ?_, ?_, ?_, ?_, ?_, ?_, ?_⟩, ⟨?_, ?_, ?_, ?_⟩, ⟨?_, ?_⟩, by rw [row_ok h (by omega) b1, b2], by rw [row_ok h (by omega) c1, c2], by rw [row_ok h (by omega) d1, d2]⟩
  · rw [row_ok h (by omega) (by omega), p0]; rfl
  · rw [row_ok h (by omega) (by omega), p1]; rfl
  · rw [row_ok h (by omega) (by omega), p2]; rfl
  · rw [row_ok h (by omega) (by omega), p3]; rfl
  · rw [row_ok h (by omega) (by omega), p4]; rfl
  · rw [row_ok h (by omega) (by omega), p5]; rfl
  · intro k hk; rw [row_ok h (by omega) (e_10 k hk).1, (e_10 k hk).2]; rfl
  · intro a b ha hb
    have ha : a < 4 := ha
    have hb : b < 4 := hb
    rw [row_ok h (by omega) (e_11 a ha b hb).1, (e_11 a ha b hb).2]
    show _ = wI 3 (fw (wi (lF l00)) 8 (8 * a + b))
    rw [w00 (by omega) (by omega)]
    by_cases z : a = b
    · rw [if_pos z, if_pos z]
      rfl
    · rw [if_neg z, if_neg z]
      rfl
  · intro k hk; rw [row_ok h (by omega) (e_12 k hk).1, (e_12 k hk).2]; rfl
  · exact fun h hh => absurd hh (by show ¬ h < 0; omega)
  · exact fun i hi => absurd hi (by show ¬ i < 0; omega)
  · rw [row_ok h (by omega) g1, g2]; rfl
  · exact fun i hi => absurd hi (by show ¬ i < 0; omega)
  · intro k hk
    show M.2.1 20 k = _
    rw [row_ok h (by omega) (e_20 k hk).1, (e_20 k hk).2]; rfl
  · intro k hk
    show M.2.1 21 k = _
    rw [row_ok h (by omega) (e_21 k hk).1, (e_21 k hk).2]; rfl
  · rw [row_ok h (by omega) f1, f2]; rfl
  · exact fun i hi => absurd hi (by show ¬ i < 0; omega)
theorem reads_empty {tx : Nat → Nat} {m n : Nat → Nat → Int32} (h1 : m 1 1 = 0) (h2 : n 56 2 = 0) : ∃ n', F_Mo_reads n = some (1, n') ∧ dMo l00 0 n' ∧ n' 56 2 = 0 := by
  have hfu := qFU_big
  obtain ⟨fu, hf2⟩ : ∃ fu, qFU = fu + 1 := ⟨qFU - 1, by omega⟩
  obtain ⟨n1, c1, c2, c3, c4⟩ := reads2 93 0 qFU n (by omega) (by omega)
  obtain ⟨n2, hn2⟩ : ∃ n2, n2 = q_w (q_w (q_w n1 59 0 4) 59 3 3) 56 11 0 := ⟨_, rfl⟩
  have hn56 : ∀ j, j ≠ 11 → n2 56 j = n 56 j := fun j hj => by rw [hn2, q_w_ne _ _ (by omega), q_w_row _ _ _ (by omega), q_w_row _ _ _ (by omega), c2 _ (by omega)]
  have n59 : ∀ p, p < 93 → p ≠ 0 → p ≠ 3 → n2 59 p = 0 := fun p hp h0 h3 => by rw [hn2, q_w_row _ _ _ (by omega), q_w_ne _ _ (by omega), q_w_ne _ _ (by omega)]; exact c3 p (by omega) hp
  have d0 : dMo l00 0 n2 := by
    refine ⟨?_, n59 1 (by omega) (by omega) (by omega), n59 2 (by omega) (by omega) (by omega), ?_, n59 4 (by omega) (by omega) (by omega), n59 5 (by omega) (by omega) (by omega), n59 6 (by omega) (by omega) (by omega), fun k hk => n59 _ (by omega) (by omega) (by omega), fun k hk => n59 _ (by omega) (by omega) (by omega), fun h hh => absurd hh (by show ¬ h < 0; omega), fun i hi => absurd hi (by show ¬ i < 0; omega)⟩
    · rw [hn2, q_w_row _ _ _ (by omega), q_w_ne _ _ (by omega)]
      exact q_w_same _ _ _ _
    · rw [hn2, q_w_row _ _ _ (by omega)]
      exact q_w_same _ _ _ _
  have ht : rText 0 tx m n2 := ⟨h1, by rw [hn56 2 (by omega)]; exact h2, by omega, fun i hi => absurd hi (by omega)⟩
  obtain ⟨n4, b, e, k2, k4, k5, -, -, k6⟩ := tokM_ok (p := 0) ht (by omega) (by rw [hn2]; exact q_w_same _ _ _ _)
  have z : n4 56 12 = 0 := by
    rcases k6 with ⟨_, k6⟩ | ⟨k6, _⟩
    · exact k6
    · omega
  refine ⟨n4, ?_, d0.fr (k4.1 _ (by omega)), by rw [k4.2 2 (by omega), hn56 2 (by omega)]; exact h2⟩
  unfold F_Mo_reads
  rw [show FL_Mo_reads_2 qFU n 0 = _ from c1, Option.bind_some, ← hn2, k2, Option.bind_some, hf2, FL_Mo_reads_44, if_pos z]
  rfl
theorem q_run_xt {xt : Nat → Nat × (Nat → Int32)} {mi : Nat} : ∀ (k : Nat) {S S' : qS}, q_run q_xt0 mi k S = some S' → q_run xt mi k S = some S' := by
  intro k
  induction k with
  | zero => intro S S' h; exact h
  | succ k ih =>
    intro S S' h
    rw [q_run] at h ⊢
    cases ha : q_act q_xt0 mi S with
    | none => rw [ha] at h; cases h
    | some a =>
      rw [ha] at h
      rw [q_act_xt ha]
      rcases a with S1 | v | w
      · exact ih h
      · cases h
      · cases h
def q_isr (L : List (Option Value)) (st : List Value) : Bool := match L with
  | [some (.ref a)] => (match st with
    | [.ref b] => Nat.beq a 58 && Nat.beq b 58
    | _ => false)
  | _ => false
theorem q_isr_of {L : List (Option Value)} {st : List Value} (h : q_isr L st = true) : L = [some (.ref 58)] ∧ st = [.ref 58] := by
  unfold q_isr at h
  split at h
  · split at h
    · rw [Bool.and_eq_true] at h
      exact ⟨by rw [Nat.eq_of_beq_eq_true h.1], by rw [Nat.eq_of_beq_eq_true h.2]⟩
    · cases h
  · cases h
/-- what the reference's constructor makes, before it reads -/
noncomputable def q_iB : Option qS := match q_iA with
  | some (none, M) => q_run q_xt0 104 55 (0, [some (.ref 58)], [], q_new M (8, 21))
  | _ => none
noncomputable def q_okB : Bool := match q_iB with
  | some (pc, L, st, M) => Nat.beq pc 111 && (q_isr L st && (decide (M.1 = qSH) && (decide (M.2.2.2.2 = qRH) && (decide (M.2.2.2.1 0 = 0) && (decide (M.2.2.2.1 56 = 0) && (decide (M.2.2.1 56 2 = 0) && q_rowsok M 0 58))))))
  | none => false
theorem q_okB_t : q_okB = true := by decide +kernel
theorem okB_ex {MA : qM} (hA : q_iA = some (none, MA)) : ∃ m n lm, q_run q_xt0 104 55 (0, [some (.ref 58)], [], q_new MA (8, 21)) = some (111, [some (.ref 58)], [.ref 58], qMM m n lm) ∧ lm 0 = 0 ∧ lm 56 = 0 ∧ n 56 2 = 0 ∧ q_rowsok (qMM m n lm) 0 58 = true := by
  have h := q_okB_t
  have hB : q_iB = q_run q_xt0 104 55 (0, [some (.ref 58)], [], q_new MA (8, 21)) := by
    unfold q_iB
    rw [hA]
  obtain ⟨q, hq⟩ : ∃ q, q = q_iB := ⟨_, rfl⟩
  rw [← hB, ← hq]
  unfold q_okB at h
  rw [← hq] at h
  cases q with
  | none => exact Bool.noConfusion h
  | some a =>
    obtain ⟨pc, L, st, s, m, n, lm, rf⟩ := a
    have h : (Nat.beq pc 111 && (q_isr L st && (decide (s = qSH) && (decide (rf = qRH) && (decide (lm 0 = 0) && (decide (lm 56 = 0) && (decide (n 56 2 = 0) && q_rowsok (s, m, n, lm, rf) 0 58))))))) = true := h
    rw [Bool.and_eq_true, Bool.and_eq_true, Bool.and_eq_true, Bool.and_eq_true, Bool.and_eq_true, Bool.and_eq_true, Bool.and_eq_true, decide_eq_true_eq, decide_eq_true_eq, decide_eq_true_eq, decide_eq_true_eq, decide_eq_true_eq] at h
    obtain ⟨h1, h2, h3, h4, h5, h6, h7, h8⟩ := h
    obtain ⟨g1, g2⟩ := q_isr_of h2
    rw [Nat.eq_of_beq_eq_true h1, g1, g2]
    subst h3
    subst h4
    exact ⟨m, n, lm, rfl, h5, h6, h7, h8⟩
