/-! the text: the next token -/
def tRl (len : Nat) (m n : Nat → Nat → Int32) (b e : Nat) : Prop := m 1 5 = nI b ∧ m 1 6 = nI e ∧ n 56 11 = nI e ∧ n 56 13 = nI b ∧ b ≤ e ∧ e ≤ len ∧ ((m 1 3 = 257 ∧ n 56 12 = 0) ∨ (b < e ∧ ((∃ v, v ≤ 99 ∧ m 1 3 = 256 ∧ m 1 4 = nI v ∧ n 56 12 = 2 ∧ n 56 14 = nI v) ∨ (m 1 3 = 258 ∧ n 56 12 = 2 ∧ n 56 14 = nI 100) ∨ ∃ c, c < 256 ∧ m 1 3 = nI c ∧ n 56 14 = nI c ∧ ((n 56 12 = 1 ∧ isl c = true) ∨ (n 56 12 = 3 ∧ c = 59) ∨ (n 56 12 = 4 ∧ isl c = false ∧ c ≠ 59)))))
noncomputable def tkK (m6 : Nat → Nat → Int32) : Option (Nat → Nat → Int32) :=
  Option.bind (F_Mo_letterAt (q_w m6 56 13 (m6 56 11)) (m6 56 11)) (fun r8 =>
    if 0 ≤ r8 then
      Option.bind (F_Mo_isLetter r8) (fun r11 =>
        if r11 = 0 then
          Option.bind (F_Mo_isDigit r8) (fun r14 =>
            if r14 = 0 then
              if r8 = 59 then
                some ((q_w (q_w (q_w (q_w m6 56 13 (m6 56 11)) 56 12 3) 56 14 r8) 56 11 (m6 56 11 + 1)))
              else
                some ((q_w (q_w (q_w (q_w m6 56 13 (m6 56 11)) 56 12 4) 56 14 r8) 56 11 (m6 56 11 + 1)))
            else
              Option.bind (FL_Mo_token_128 qFU (q_w (q_w (q_w (q_w (q_w m6 56 13 (m6 56 11)) 56 12 2) 56 14 r8) 56 11 (m6 56 11 + 1)) 56 14 (r8 - 48)) r8 1) (fun m19 =>
                some (m19)))
        else
          some ((q_w (q_w (q_w (q_w m6 56 13 (m6 56 11)) 56 12 1) 56 14 r8) 56 11 (m6 56 11 + 1))))
    else
      some ((q_w (q_w (q_w m6 56 13 (m6 56 11)) 56 12 0) 56 14 r8)))
theorem token_K (n : Nat → Nat → Int32) : F_Mo_token n = Option.bind (FL_Mo_token_0 (qFU + 1) n) tkK := by
  rw [FL_Mo_token_0]
  unfold F_Mo_token
  cases F_Mo_letterAt n (n 56 11) with
  | none => rfl
  | some r =>
    rw [Option.bind_some, Option.bind_some]
    by_cases z : r = 32
    · rw [if_pos z, if_pos z]
      rfl
    · rw [if_neg z, if_neg z]
      rfl
theorem nv_le {tx : Nat → Nat} {b : Nat} (h1 : tx b ≤ 57) (h2 : tx (b + 1) ≤ 57) : ∀ k, nv tx b k ≤ 99
  | 0 => Nat.zero_le _
  | 1 => by
    show tx b - 48 ≤ 99
    omega
  | k + 2 => by
    show (tx b - 48) * 10 + (tx (b + 1) - 48) ≤ 99
    omega
theorem nv_1 (tx : Nat → Nat) (b : Nat) : nv tx b 1 = tx b - 48 := rfl
theorem token_ok {len : Nat} {tx : Nat → Nat} {m n : Nat → Nat → Int32} {p : Nat} (ht : rText len tx m n) (hp : p ≤ len) (h6 : m 1 6 = nI p) (h11 : n 56 11 = nI p) : ∃ m' n' b e, F_Re_goOn_1 m = some m' ∧ F_Mo_token n = some n' ∧ frC m m' ∧ frM n n' ∧ p ≤ b ∧ tRl len m' n' b e := by
  have hfu := qFU_big
  have l2 := ht.2.2.1
  have f0 : frC m (q_w m 1 5 (nI p)) := (frC.rf m).w _ (by omega) (by omega)
  obtain ⟨b, m1, n1, a1, a2, a3, a4, a5, a6, a7, a8⟩ := skip_both (len := len) (tx := tx) (len - p) p qFU (qFU + 1) (q_w m 1 5 (nI p)) n (by omega) (by omega) (by omega) (ht.fr f0 (frM.rf _)) (q_w_same _ _ _ _) h11
  have fC := f0.tr a7
  have t1 : rText len tx m1 n1 := ht.fr fC a8
  have t2 : rText len tx m1 (q_w n1 56 13 (nI b)) := t1.fr (frC.rf _) ((frM.rf _).w _ (by omega) (by omega))
  have t3 : rText len tx (q_w m1 1 6 (nI b)) n1 := t1.fr ((frC.rf _).w _ (by omega) (by omega)) (frM.rf _)
  rw [token_K, a4, Option.bind_some]
  unfold F_Re_goOn_1 tkK
  rw [h6, a3, Option.bind_some, a5, a6, t1.1, letterAt_ok t2 (by omega), Option.bind_some]
  by_cases z : b < len
  · obtain ⟨u1, u2, u3⟩ := t1.2.2.2 b z
    have pos : (0 : Int32) ≤ nI (tx b) := nI_pos' (by omega)
    rw [if_pos (nI_lt z (by omega)), if_pos z, if_pos pos, isDigitC_ok t3 z, Option.bind_some, isLetter_ok _ u3, Option.bind_some, isDigit_ok _ u3, Option.bind_some, q_in_nI (by omega) (by omega), nI_clamp (by omega), u1, nI_1, cond_true]
    by_cases y : dg (tx b) = true
    · obtain ⟨y1, y2⟩ := dgl _ u3 y
      obtain ⟨d1, d2⟩ := (dg_iff _).mp y
      have ne2 : ¬ (if isl (tx b) = true then (1 : Int32) else 0) ≠ 0 := by rw [y1]; decide
      rw [y, y1, if_pos rfl, if_neg ne1, if_neg ne1, if_pos (show (if false = true then (1 : Int32) else 0) = 0 from rfl)]
      obtain ⟨E, e1, e2, e3, e4⟩ := dig_end tx len (len - b) b (by omega)
      have bE : b < E := by
        apply Classical.byContradiction
        intro q
        have : E = b := by omega
        rw [this] at e4
        rw [e4 z] at y
        exact absurd y (by decide)
      -- the class
      have g1 : frC m1 (q_w (q_w m1 1 6 (nI b)) 1 4 0) := ((frC.rf m1).w _ (by omega) (by omega)).w _ (by omega) (by omega)
      obtain ⟨m2, c1, c2, c3, c4, c5⟩ := digC_loop (len := len) (tx := tx) e2 e3 e4 (E - b) b qFU (q_w (q_w m1 1 6 (nI b)) 1 4 0) n1 (by omega) (by omega) (by omega) (t1.fr g1 (frM.rf _)) (by rw [q_w_ne _ _ (by omega), q_w_ne _ _ (by omega)]; exact a5) (by rw [q_w_ne _ _ (by omega), q_w_same]) (by rw [q_w_same, Nat.sub_self]; rfl)
      -- the reference
      have g2 : frM n1 (q_w (q_w (q_w (q_w (q_w n1 56 13 (nI b)) 56 12 2) 56 14 (nI (tx b))) 56 11 (nI (b + 1))) 56 14 (nI (tx b) - 48)) := (((((frM.rf n1).w _ (by omega) (by omega)).w _ (by omega) (by omega)).w _ (by omega) (by omega)).w _ (by omega) (by omega)).w _ (by omega) (by omega)
      have gd1 : gd tx b (b + 1 - b) = true := by
        rw [show b + 1 - b = 1 by omega]
        rfl
      obtain ⟨n2, k1, k2, k3, k4, k5, k6⟩ := digM_loop (len := len) (tx := tx) e2 e3 e4 (E - (b + 1)) (b + 1) qFU m1 (q_w (q_w (q_w (q_w (q_w n1 56 13 (nI b)) 56 12 2) 56 14 (nI (tx b))) 56 11 (nI (b + 1))) 56 14 (nI (tx b) - 48)) (by omega) (by omega) (by omega) (t1.fr (frC.rf _) g2) (by rw [q_w_ne _ _ (by omega), q_w_ne _ _ (by omega), q_w_ne _ _ (by omega), q_w_ne _ _ (by omega), q_w_same]) (by rw [q_w_ne _ _ (by omega), q_w_same]) (by rw [q_w_same, gd1, if_pos rfl, show b + 1 - b = 1 by omega, nv_1, i_48, pk_sub (by omega)])
      rw [gd1, if_pos rfl] at k1
      have k5 : n2 56 12 = 2 := by rw [k5, q_w_ne _ _ (by omega), q_w_ne _ _ (by omega), q_w_ne _ _ (by omega), q_w_same]
      have frc : frC m m2 := fC.tr (g1.tr c5)
      have frm : frM n n2 := a8.tr (g2.tr k6)
      have u1' : m2 2 b = nI (tx b) := by
        have := (ht.fr frc frm).2.2.2 b z
        exact this.1
      have v99 : nv tx b (E - b) ≤ 99 := by
        by_cases q : E = b + 1
        · rw [q, show b + 1 - b = 1 by omega, nv_1]
          omega
        · have := (dg_iff _).mp (e3 (b + 1) (by omega) (by omega))
          exact nv_le d2 this.2 _
      have rd : F_Re_readDigits_1 (q_w m1 1 6 (nI b)) = some (q_w m2 1 3 (if gd tx b (E - b) = true then 256 else 258)) := by
        unfold F_Re_readDigits_1
        rw [c1, Option.bind_some, c2, c4, pk_sub (by omega), q_in_nI (by omega) (by omega), nI_clamp (by omega), u1', cond_true]
        have cases3 : E - b = 1 ∨ E - b = 2 ∨ 3 ≤ E - b := by omega
        rcases cases3 with q | q | q
        · rw [q, if_pos (show nI 1 ≤ 1 by decide), if_neg (show ¬ (2 : Int32) < nI 1 by decide)]
          rfl
        · rw [q, if_neg (show ¬ nI 2 ≤ 1 by decide), if_neg (show ¬ (2 : Int32) < nI 2 by decide)]
          by_cases w : tx b = 48
          · rw [if_pos (show nI (tx b) = 48 by rw [w]; rfl)]
            unfold gd
            simp [w]
          · rw [if_neg (show ¬ nI (tx b) = 48 from fun r => w ((nI_eq (b := 48) (by omega) (by omega)).mp r)), if_neg (show ¬ (2 : Int32) < nI 2 by decide)]
            unfold gd
            simp [w]
        · have gt : (2 : Int32) < nI (E - b) := (nI_lt (by omega) (by omega) : nI 2 < nI (E - b))
          have ng : ¬ nI (E - b) ≤ 1 := (nI_ge (by omega) (by omega) : ¬ nI (E - b) ≤ nI 1)
          have hg : gd tx b (E - b) = false := by
            unfold gd
            have h1 : ¬ E - b ≤ 1 := by omega
            have h2 : ¬ E - b = 2 := by omega
            simp [h1, h2]
          rw [if_neg ng, if_pos gt, if_pos gt, ite_self, hg]
          rfl
      rw [rd, k1, Option.bind_some, Option.bind_some]
      refine ⟨_, n2, b, E, rfl, rfl, frc.w _ (by omega) (by omega), frm, a1, by rw [q_w_ne _ _ (by omega)]; exact c4, by rw [q_w_ne _ _ (by omega)]; exact c2, k2, k4, by omega, e2, Or.inr ⟨bE, ?_⟩⟩
      by_cases w : gd tx b (E - b) = true
      · rw [if_pos w] at k3 ⊢
        exact Or.inl ⟨nv tx b (E - b), v99, q_w_same _ _ _ _, by rw [q_w_ne _ _ (by omega)]; exact c3, k5, k3⟩
      · rw [if_neg w] at k3 ⊢
        exact Or.inr (Or.inl ⟨q_w_same _ _ _ _, k5, k3⟩)
    · have y0 : dg (tx b) = false := by simpa using y
      rw [y0, if_neg (show ¬ false = true by decide), if_pos rfl, if_pos rfl]
      have frc : frC m (q_w (q_w (q_w m1 1 6 (nI b)) 1 3 (nI (tx b))) 1 6 (nI (b + 1))) := ((fC.w _ (by omega) (by omega)).w _ (by omega) (by omega)).w _ (by omega) (by omega)
      have w0 : ∀ s : Int32, frM n (q_w (q_w (q_w (q_w n1 56 13 (nI b)) 56 12 s) 56 14 (nI (tx b))) 56 11 (nI (b + 1))) := fun s => (((a8.w _ (by omega) (by omega)).w _ (by omega) (by omega)).w _ (by omega) (by omega)).w _ (by omega) (by omega)
      have R : ∀ s : Int32, ((s = 1 ∧ isl (tx b) = true) ∨ (s = 3 ∧ tx b = 59) ∨ (s = 4 ∧ isl (tx b) = false ∧ tx b ≠ 59)) → tRl len (q_w (q_w (q_w m1 1 6 (nI b)) 1 3 (nI (tx b))) 1 6 (nI (b + 1))) (q_w (q_w (q_w (q_w n1 56 13 (nI b)) 56 12 s) 56 14 (nI (tx b))) 56 11 (nI (b + 1))) b (b + 1) := by
        intro s hs
        refine ⟨by rw [q_w_ne _ _ (by omega), q_w_ne _ _ (by omega), q_w_ne _ _ (by omega)]; exact a5, q_w_same _ _ _ _, q_w_same _ _ _ _, by rw [q_w_ne _ _ (by omega), q_w_ne _ _ (by omega), q_w_ne _ _ (by omega), q_w_same], by omega, by omega, Or.inr ⟨by omega, Or.inr (Or.inr ⟨tx b, u3, by rw [q_w_ne _ _ (by omega), q_w_same], by rw [q_w_ne _ _ (by omega), q_w_same], ?_⟩)⟩⟩
        rw [q_w_ne _ _ (by omega), q_w_ne _ _ (by omega), q_w_same]
        exact hs
      by_cases w : isl (tx b) = true
      · rw [if_pos w, if_neg ne1]
        exact ⟨_, _, b, b + 1, rfl, rfl, frc, w0 1, a1, R 1 (Or.inl ⟨rfl, w⟩)⟩
      · have w1 : isl (tx b) = false := by simpa using w
        rw [if_neg w, if_pos rfl]
        by_cases v : tx b = 59
        · rw [if_pos (show nI (tx b) = 59 by rw [v]; rfl)]
          exact ⟨_, _, b, b + 1, rfl, rfl, frc, w0 3, a1, R 3 (Or.inr (Or.inl ⟨rfl, v⟩))⟩
        · rw [if_neg (show ¬ nI (tx b) = 59 from fun r => v ((nI_eq (b := 59) (by omega) (by omega)).mp r))]
          exact ⟨_, _, b, b + 1, rfl, rfl, frc, w0 4, a1, R 4 (Or.inr (Or.inr ⟨rfl, w1, v⟩))⟩
  · rw [if_neg (nI_nlt (by omega) (by omega)), if_neg z, if_neg (show ¬ (0 : Int32) ≤ Int32.ofInt (-1) by decide)]
    refine ⟨_, _, b, b, rfl, rfl, (fC.w _ (by omega) (by omega)).w _ (by omega) (by omega), ((a8.w _ (by omega) (by omega)).w _ (by omega) (by omega)).w _ (by omega) (by omega), a1, by rw [q_w_ne _ _ (by omega), q_w_ne _ _ (by omega)]; exact a5, by rw [q_w_ne _ _ (by omega), q_w_same], by rw [q_w_ne _ _ (by omega), q_w_ne _ _ (by omega), q_w_ne _ _ (by omega)]; exact a6, by rw [q_w_ne _ _ (by omega), q_w_ne _ _ (by omega), q_w_same], by omega, by omega, Or.inl ⟨q_w_same _ _ _ _, by rw [q_w_ne _ _ (by omega), q_w_same]⟩⟩
