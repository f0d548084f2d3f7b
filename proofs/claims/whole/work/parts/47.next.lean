/-! the text: its tokens as both read them -/
/-- from a place on: where the next token begins and ends -/
def tkAt (len : Nat) (tx : Nat → Nat) (p b e : Nat) : Prop := p ≤ b ∧ (∀ j, p ≤ j → j < b → tx j = 32) ∧ ((b = len ∧ e = len) ∨ (b < len ∧ tx b ≠ 32 ∧ b < e ∧ e ≤ len ∧ ((dg (tx b) = false ∧ e = b + 1) ∨ (dg (tx b) = true ∧ (∀ j, b ≤ j → j < e → dg (tx j) = true) ∧ (e < len → dg (tx e) = false)))))
theorem tkAt_uq {len : Nat} {tx : Nat → Nat} {p b e b' e' : Nat} (h : tkAt len tx p b e) (h' : tkAt len tx p b' e') : b' = b ∧ e' = e := by
  obtain ⟨p1, p2, p3⟩ := h
  obtain ⟨q1, q2, q3⟩ := h'
  have eb : b' = b := by
    apply Classical.byContradiction
    intro z
    obtain y | y : b < b' ∨ b' < b := by omega
    · have t := q2 b p1 y
      rcases p3 with ⟨a1, _⟩ | ⟨_, a2, _⟩
      · rcases q3 with ⟨c1, _⟩ | ⟨c1, _⟩ <;> omega
      · exact a2 t
    · have t := p2 b' q1 y
      rcases q3 with ⟨a1, _⟩ | ⟨_, a2, _⟩
      · rcases p3 with ⟨c1, _⟩ | ⟨c1, _⟩ <;> omega
      · exact a2 t
  subst eb
  refine ⟨rfl, ?_⟩
  rcases p3 with ⟨a1, a2⟩ | ⟨a1, a2, a3, a4, a5⟩
  · rcases q3 with ⟨c1, c2⟩ | ⟨c1, _⟩ <;> omega
  · rcases q3 with ⟨c1, c2⟩ | ⟨c1, c2, c3, c4, c5⟩
    · omega
    · rcases a5 with ⟨d1, d2⟩ | ⟨d1, d2, d3⟩
      · rcases c5 with ⟨f1, f2⟩ | ⟨f1, f2, f3⟩
        · omega
        · rw [d1] at f1
          exact absurd f1 (by decide)
      · rcases c5 with ⟨f1, f2⟩ | ⟨f1, f2, f3⟩
        · rw [d1] at f1
          exact absurd f1 (by decide)
        · apply Classical.byContradiction
          intro z
          obtain y | y : e < e' ∨ e' < e := by omega
          · have t := f2 e (by omega) y
            rw [d3 (by omega)] at t
            exact absurd t (by decide)
          · have t := d2 e' (by omega) y
            rw [f3 (by omega)] at t
            exact absurd t (by decide)
/-- what the reference notes of a token -/
def refK (len : Nat) (tx : Nat → Nat) (b e : Nat) (n : Nat → Nat → Int32) : Prop := (b = len ∧ n 56 12 = 0) ∨ (b < len ∧ ((dg (tx b) = true ∧ n 56 12 = 2 ∧ n 56 14 = (if gd tx b (e - b) = true then nI (nv tx b (e - b)) else nI 100)) ∨ (dg (tx b) = false ∧ n 56 14 = nI (tx b) ∧ ((n 56 12 = 1 ∧ isl (tx b) = true) ∨ (n 56 12 = 3 ∧ tx b = 59) ∨ (n 56 12 = 4 ∧ isl (tx b) = false ∧ tx b ≠ 59)))))
noncomputable def tkK (m6 : Nat → Nat → Int32) : Option (Nat → Nat → Int32) :=
  Option.bind (F_Mo_letterAt (q_w m6 56 13 (m6 56 11)) (m6 56 11)) (fun r8 =>
    if 0 ≤ r8 then
      Option.bind (F_Mo_isLetter r8) (fun r11 =>
        if r11 = 0 then
          Option.bind (F_Mo_isDigit r8) (fun r14 =>
            if r14 = 0 then
              if r8 = 59 then
                some ((q_w (q_w (q_w (q_w m6 56 13 (m6 56 11)) 56 12 3) 56 14 r8) 56 11 (m6 56 11 + 1)))
              else
                some ((q_w (q_w (q_w (q_w m6 56 13 (m6 56 11)) 56 12 4) 56 14 r8) 56 11 (m6 56 11 + 1)))
            else
              Option.bind (FL_Mo_token_128 qFU (q_w (q_w (q_w (q_w (q_w m6 56 13 (m6 56 11)) 56 12 2) 56 14 r8) 56 11 (m6 56 11 + 1)) 56 14 (r8 - 48)) r8 1) (fun m19 =>
                some (m19)))
        else
          some ((q_w (q_w (q_w (q_w m6 56 13 (m6 56 11)) 56 12 1) 56 14 r8) 56 11 (m6 56 11 + 1))))
    else
      some ((q_w (q_w (q_w m6 56 13 (m6 56 11)) 56 12 0) 56 14 r8)))
theorem token_K (n : Nat → Nat → Int32) : F_Mo_token n = Option.bind (FL_Mo_token_0 (qFU + 1) n) tkK := by
  rw [FL_Mo_token_0]
  unfold F_Mo_token
  cases F_Mo_letterAt n (n 56 11) with
  | none => rfl
  | some r =>
    rw [Option.bind_some, Option.bind_some]
    by_cases z : r = 32
    · rw [if_pos z, if_pos z]
      rfl
    · rw [if_neg z, if_neg z]
      rfl
theorem nv_le {tx : Nat → Nat} {b : Nat} (h1 : tx b ≤ 57) (h2 : tx (b + 1) ≤ 57) : ∀ k, nv tx b k ≤ 99
  | 0 => Nat.zero_le _
  | 1 => by
    show tx b - 48 ≤ 99
    omega
  | k + 2 => by
    show (tx b - 48) * 10 + (tx (b + 1) - 48) ≤ 99
    omega
theorem nv_1 (tx : Nat → Nat) (b : Nat) : nv tx b 1 = tx b - 48 := rfl
theorem nv_99 {tx : Nat → Nat} {b e : Nat} (h : b < e) (hd : ∀ j, b ≤ j → j < e → dg (tx j) = true) : nv tx b (e - b) ≤ 99 := by
  have d0 := (dg_iff _).mp (hd b (by omega) h)
  by_cases q : e = b + 1
  · rw [q, show b + 1 - b = 1 by omega, nv_1]
    omega
  · exact nv_le d0.2 ((dg_iff _).mp (hd (b + 1) (by omega) (by omega))).2 _
theorem tokM_ok {len : Nat} {tx : Nat → Nat} {m n : Nat → Nat → Int32} {p : Nat} (ht : rText len tx m n) (hp : p ≤ len) (h11 : n 56 11 = nI p) : ∃ n' b e, F_Mo_token n = some n' ∧ frM n n' ∧ tkAt len tx p b e ∧ n' 56 11 = nI e ∧ n' 56 13 = nI b ∧ refK len tx b e n' := by
  have hfu := qFU_big
  have l2 := ht.2.2.1
  obtain ⟨b, n1, a1, a2, a3, a4, a5, a6, a8⟩ := skipM (len := len) (tx := tx) (len - p) p (qFU + 1) m n (by omega) (by omega) ht h11
  have t1 : rText len tx m n1 := ht.fr (frC.rf _) a8
  have t2 : rText len tx m (q_w n1 56 13 (nI b)) := t1.fr (frC.rf _) ((frM.rf _).w _ (by omega) (by omega))
  rw [token_K, a5, Option.bind_some]
  unfold tkK
  rw [a6, letterAt_ok t2 (by omega), Option.bind_some]
  by_cases z : b < len
  · obtain ⟨u1, u2, u3⟩ := t1.2.2.2 b z
    have pos : (0 : Int32) ≤ nI (tx b) := nI_pos' (by omega)
    rw [if_pos z, if_pos pos, isLetter_ok _ u3, Option.bind_some, isDigit_ok _ u3, Option.bind_some, nI_1]
    by_cases y : dg (tx b) = true
    · obtain ⟨y1, y2⟩ := dgl _ u3 y
      obtain ⟨d1, d2⟩ := (dg_iff _).mp y
      rw [y, y1, if_pos (show (if false = true then (1 : Int32) else 0) = 0 from rfl), if_pos rfl, if_neg ne1]
      obtain ⟨E, e1, e2, e3, e4⟩ := dig_end tx len (len - b) b (by omega)
      have bE : b < E := by
        apply Classical.byContradiction
        intro q
        have : E = b := by omega
        rw [this] at e4
        rw [e4 z] at y
        exact absurd y (by decide)
      have g2 : frM n1 (q_w (q_w (q_w (q_w (q_w n1 56 13 (nI b)) 56 12 2) 56 14 (nI (tx b))) 56 11 (nI (b + 1))) 56 14 (nI (tx b) - 48)) := (((((frM.rf n1).w _ (by omega) (by omega)).w _ (by omega) (by omega)).w _ (by omega) (by omega)).w _ (by omega) (by omega)).w _ (by omega) (by omega)
      have gd1 : gd tx b (b + 1 - b) = true := by
        rw [show b + 1 - b = 1 by omega]
        rfl
      obtain ⟨n2, k1, k2, k3, k4, k5, k6⟩ := digM_loop (len := len) (tx := tx) e2 e3 e4 (E - (b + 1)) (b + 1) qFU m (q_w (q_w (q_w (q_w (q_w n1 56 13 (nI b)) 56 12 2) 56 14 (nI (tx b))) 56 11 (nI (b + 1))) 56 14 (nI (tx b) - 48)) (by omega) (by omega) (by omega) (t1.fr (frC.rf _) g2) (by rw [q_w_ne _ _ (by omega), q_w_ne _ _ (by omega), q_w_ne _ _ (by omega), q_w_ne _ _ (by omega), q_w_same]) (by rw [q_w_ne _ _ (by omega), q_w_same]) (by rw [q_w_same, gd1, if_pos rfl, show b + 1 - b = 1 by omega, nv_1, i_48, pk_sub (by omega)])
      rw [gd1, if_pos rfl] at k1
      have k5 : n2 56 12 = 2 := by rw [k5, q_w_ne _ _ (by omega), q_w_ne _ _ (by omega), q_w_ne _ _ (by omega), q_w_same]
      rw [k1, Option.bind_some]
      exact ⟨n2, b, E, rfl, a8.tr (g2.tr k6), ⟨a1, a3, Or.inr ⟨z, a4 z, bE, e2, Or.inr ⟨y, e3, e4⟩⟩⟩, k2, k4, Or.inr ⟨z, Or.inl ⟨y, k5, k3⟩⟩⟩
    · have y0 : dg (tx b) = false := by simpa using y
      have w0 : ∀ s : Int32, frM n (q_w (q_w (q_w (q_w n1 56 13 (nI b)) 56 12 s) 56 14 (nI (tx b))) 56 11 (nI (b + 1))) := fun s => (((a8.w _ (by omega) (by omega)).w _ (by omega) (by omega)).w _ (by omega) (by omega)).w _ (by omega) (by omega)
      have tk : tkAt len tx p b (b + 1) := ⟨a1, a3, Or.inr ⟨z, a4 z, by omega, by omega, Or.inl ⟨y0, rfl⟩⟩⟩
      have R : ∀ s : Int32, ((s = 1 ∧ isl (tx b) = true) ∨ (s = 3 ∧ tx b = 59) ∨ (s = 4 ∧ isl (tx b) = false ∧ tx b ≠ 59)) → (q_w (q_w (q_w (q_w n1 56 13 (nI b)) 56 12 s) 56 14 (nI (tx b))) 56 11 (nI (b + 1))) 56 11 = nI (b + 1) ∧ (q_w (q_w (q_w (q_w n1 56 13 (nI b)) 56 12 s) 56 14 (nI (tx b))) 56 11 (nI (b + 1))) 56 13 = nI b ∧ refK len tx b (b + 1) (q_w (q_w (q_w (q_w n1 56 13 (nI b)) 56 12 s) 56 14 (nI (tx b))) 56 11 (nI (b + 1))) := by
        intro s hs
        refine ⟨q_w_same _ _ _ _, by rw [q_w_ne _ _ (by omega), q_w_ne _ _ (by omega), q_w_ne _ _ (by omega), q_w_same], Or.inr ⟨z, Or.inr ⟨y0, by rw [q_w_ne _ _ (by omega), q_w_same], ?_⟩⟩⟩
        rw [q_w_ne _ _ (by omega), q_w_ne _ _ (by omega), q_w_same]
        exact hs
      rw [y0, if_neg (show ¬ false = true by decide), if_pos rfl]
      by_cases w : isl (tx b) = true
      · rw [if_pos w, if_neg ne1]
        exact ⟨_, b, b + 1, rfl, w0 1, tk, R 1 (Or.inl ⟨rfl, w⟩)⟩
      · have w1 : isl (tx b) = false := by simpa using w
        rw [if_neg w, if_pos rfl]
        by_cases v : tx b = 59
        · rw [if_pos (show nI (tx b) = 59 by rw [v]; rfl)]
          exact ⟨_, b, b + 1, rfl, w0 3, tk, R 3 (Or.inr (Or.inl ⟨rfl, v⟩))⟩
        · rw [if_neg (show ¬ nI (tx b) = 59 from fun r => v ((nI_eq (b := 59) (by omega) (by omega)).mp r))]
          exact ⟨_, b, b + 1, rfl, w0 4, tk, R 4 (Or.inr (Or.inr ⟨rfl, w1, v⟩))⟩
  · obtain rfl : b = len := by omega
    rw [if_neg z, if_neg (show ¬ (0 : Int32) ≤ Int32.ofInt (-1) by decide)]
    exact ⟨_, b, b, rfl, ((a8.w _ (by omega) (by omega)).w _ (by omega) (by omega)).w _ (by omega) (by omega), ⟨a1, a3, Or.inl ⟨rfl, rfl⟩⟩, by rw [q_w_ne _ _ (by omega), q_w_ne _ _ (by omega), q_w_ne _ _ (by omega)]; exact a6, by rw [q_w_ne _ _ (by omega), q_w_ne _ _ (by omega), q_w_same], Or.inl ⟨rfl, by rw [q_w_ne _ _ (by omega), q_w_same]⟩⟩
/-! the class: the text split -/
theorem lastC {len : Nat} {tx : Nat → Nat} {b E : Nat} (hE : E ≤ len) (hd : ∀ j, b ≤ j → j < E → dg (tx j) = true) (hn : E < len → dg (tx E) = false) (x1 : Int32) : ∀ (d j fu : Nat) (m n : Nat → Nat → Int32), j + d = E → d < fu → b ≤ j → rText len tx m n → FL_Re_lastOfFigures_1_2 fu m x1 (nI j) = some (nI E) := by
  intro d
  induction d with
  | zero =>
    intro j fu m n e1 e2 e3 ht
    obtain ⟨fu, rfl⟩ : ∃ f, fu = f + 1 := ⟨fu - 1, by omega⟩
    have l2 := ht.2.2.1
    obtain rfl : j = E := by omega
    rw [FL_Re_lastOfFigures_1_2, ht.1]
    by_cases z : j < len
    · rw [if_neg (nI_ge z (by omega)), isFigC_ok ht z, hn z]
      rfl
    · rw [if_pos (nI_le (by omega) (by omega))]
  | succ d ih =>
    intro j fu m n e1 e2 e3 ht
    obtain ⟨fu, rfl⟩ : ∃ f, fu = f + 1 := ⟨fu - 1, by omega⟩
    have l2 := ht.2.2.1
    have dj := hd j e3 (by omega)
    rw [FL_Re_lastOfFigures_1_2, ht.1, if_neg (nI_ge (by omega) (by omega)), isFigC_ok ht (by omega), dj, if_pos rfl, Option.bind_some, if_neg ne1, nI_1]
    exact ih (j + 1) fu m n (by omega) (by omega) (by omega) ht
theorem last_ok {len : Nat} {tx : Nat → Nat} {b : Nat} {m n : Nat → Nat → Int32} (ht : rText len tx m n) (hb : b < len) : ∃ e, b < e ∧ e ≤ len ∧ F_Re_lastOfFigures_1 m (nI b) = some (nI (e - 1)) ∧ ((dg (tx b) = false ∧ e = b + 1) ∨ (dg (tx b) = true ∧ (∀ j, b ≤ j → j < e → dg (tx j) = true) ∧ (e < len → dg (tx e) = false))) := by
  have hfu := qFU_big
  have l2 := ht.2.2.1
  obtain ⟨E, e1, e2, e3, e4⟩ := dig_end tx len (len - b) b (by omega)
  have L := lastC (len := len) (tx := tx) e2 e3 e4 (nI b) (E - b) b qFU m n (by omega) (by omega) (by omega) ht
  unfold F_Re_lastOfFigures_1
  rw [L, Option.bind_some]
  by_cases y : dg (tx b) = true
  · have bE : b < E := by
      apply Classical.byContradiction
      intro q
      have : E = b := by omega
      rw [this] at e4
      rw [e4 hb] at y
      exact absurd y (by decide)
    have h1 : nI E - 1 = nI (E - 1) := by rw [i_1, pk_sub (by omega)]
    refine ⟨E, bE, e2, ?_, Or.inr ⟨y, e3, e4⟩⟩
    rw [h1]
    by_cases z : b < E - 1
    · rw [if_pos (nI_lt z (by omega))]
    · rw [if_neg (nI_nlt (by omega) (by omega)), show E - 1 = b by omega]
  · have y0 : dg (tx b) = false := by simpa using y
    have bE : E = b := by
      apply Classical.byContradiction
      intro q
      exact y (e3 b (by omega) (by omega))
    refine ⟨b + 1, by omega, by omega, ?_, Or.inl ⟨y0, rfl⟩⟩
    rw [bE, Nat.add_sub_cancel]
    by_cases z : b = 0
    · rw [z]
      rfl
    · have h1 : nI b - 1 = nI (b - 1) := by rw [i_1, pk_sub (by omega)]
      rw [h1, if_neg (nI_nlt (by omega) (by omega))]
/-- the class's number of a token -/
def tv (len : Nat) (tx : Nat → Nat) (b e : Nat) : Nat := if b = len then 256 else if dg (tx b) = true then (if gd tx b (e - b) = true then 258 + nv tx b (e - b) else 257) else tx b
theorem tokFig_ok {len : Nat} {tx : Nat → Nat} {b e : Nat} {m n : Nat → Nat → Int32} (ht : rText len tx m n) (hb : b < e) (he : e ≤ len) (hd : ∀ j, b ≤ j → j < e → dg (tx j) = true) : F_Re_tokenOfFigures_1 m (nI b) (nI (e - 1)) = some (nI (if gd tx b (e - b) = true then 258 + nv tx b (e - b) else 257)) := by
  have l2 := ht.2.2.1
  obtain ⟨d1, d2⟩ := (dg_iff _).mp (hd b (by omega) hb)
  obtain ⟨d3, d4⟩ := (dg_iff _).mp (hd (e - 1) (by omega) (by omega))
  have ub := (ht.2.2.2 b (by omega)).1
  have ue := (ht.2.2.2 (e - 1) (by omega)).1
  unfold F_Re_tokenOfFigures_1
  rw [q_in_nI (j := e - 1) (by omega) (by omega), q_in_nI (j := b) (by omega) (by omega), nI_clamp (n := e - 1) (by omega), nI_clamp (n := b) (by omega), ub, ue, i_48, pk_sub (by omega), pk_sub (by omega), cond_true, cond_true, cond_true]
  by_cases z : e = b + 1
  · subst z
    rw [Nat.add_sub_cancel, if_pos rfl, show b + 1 - b = 1 by omega, i_258, nI_add]
    rfl
  · rw [if_neg (fun y => z (by have := (nI_eq (a := b) (b := e - 1) (by omega) (by omega)).mp y; omega)), pk_sub (by omega)]
    by_cases y : e = b + 2
    · subst y
      rw [if_pos (show nI (b + 2 - 1 - b) < 2 by rw [show b + 2 - 1 - b = 1 by omega]; decide), show b + 2 - b = 2 by omega, show b + 2 - 1 = b + 1 by omega]
      rw [show b + 2 - 1 = b + 1 by omega] at d3 d4
      by_cases w : tx b = 48
      · rw [if_pos (show nI (tx b - 48) = 0 by rw [w]; rfl)]
        have : gd tx b 2 = false := by unfold gd; simp [w]
        rw [this]
        rfl
      · have g : gd tx b 2 = true := by unfold gd; simp [w]
        rw [if_neg (nI_ne0 (by omega) (by omega)), g, if_pos rfl, i_10, pk_mul, i_258, nI_add, nI_add]
        congr 2
        show 258 + 10 * (tx b - 48) + (tx (b + 1) - 48) = 258 + ((tx b - 48) * 10 + (tx (b + 1) - 48))
        omega
    · have ng : ¬ nI (e - 1 - b) < 2 := (nI_nlt (by omega) (by omega) : ¬ nI (e - 1 - b) < nI 2)
      have hg : gd tx b (e - b) = false := by
        unfold gd
        have h1 : ¬ e - b ≤ 1 := by omega
        have h2 : ¬ e - b = 2 := by omega
        simp [h1, h2]
      rw [if_neg ng, hg]
      rfl
def tkD (len : Nat) (tx : Nat → Nat) (m : Nat → Nat → Int32) (T : Nat) (P B : Nat → Nat) : Prop := ∀ k, k < T → tkAt len tx (P k) (B k) (P (k + 1)) ∧ B k < len ∧ m 71 k = nI (B k) ∧ m 70 k = nI (tv len tx (B k) (P (k + 1)))
theorem splitL {len : Nat} {tx : Nat → Nat} : ∀ (d p fu T : Nat) (m n : Nat → Nat → Int32) (P B : Nat → Nat), len ≤ p + d → p ≤ len → d < fu → rText len tx m n → T ≤ p → tkD len tx m T P B → P 0 = 0 → P T ≤ p → (∀ j, P T ≤ j → j < p → tx j = 32) → ∃ T' m' P' B', FL_Re_split_1_4 fu m (nI T) (nI p) = some (nI T', m') ∧ T' ≤ len ∧ tkD len tx m' T' P' B' ∧ P' 0 = 0 ∧ P' T' ≤ len ∧ (∀ j, P' T' ≤ j → j < len → tx j = 32) ∧ ∀ k, k ≠ 70 → k ≠ 71 → m' k = m k := by
  intro d
  induction d with
  | zero =>
    intro p fu T m n P B e1 e2 e3 ht h1 h2 h3 h4 h5
    obtain ⟨fu, rfl⟩ : ∃ f, fu = f + 1 := ⟨fu - 1, by omega⟩
    have l2 := ht.2.2.1
    refine ⟨T, m, P, B, ?_, by omega, h2, h3, by omega, fun j a b => h5 j a (by omega), fun _ _ _ => rfl⟩
    rw [FL_Re_split_1_4, ht.1, if_pos (nI_le (by omega) (by omega))]
  | succ d ih =>
    intro p fu T m n P B e1 e2 e3 ht h1 h2 h3 h4 h5
    obtain ⟨fu, rfl⟩ : ∃ f, fu = f + 1 := ⟨fu - 1, by omega⟩
    have l2 := ht.2.2.1
    by_cases z : p = len
    · refine ⟨T, m, P, B, ?_, by omega, h2, h3, by omega, fun j a b => h5 j a (by omega), fun _ _ _ => rfl⟩
      rw [FL_Re_split_1_4, ht.1, if_pos (nI_le (by omega) (by omega))]
    · have hp : p < len := by omega
      obtain ⟨t1, t2, t3⟩ := ht.2.2.2 p hp
      rw [FL_Re_split_1_4, ht.1, if_neg (nI_ge hp (by omega)), q_in_nI (j := p) (by omega) (by omega), nI_clamp (n := p) (by omega), t1, cond_true]
      by_cases y : tx p = 32
      · rw [if_pos ((n32 t3).mpr y), nI_1]
        exact ih (p + 1) fu T m n P B (by omega) (by omega) (by omega) ht (by omega) h2 h3 (by omega) (fun j a b => by
          by_cases x : j = p
          · rw [x]; exact y
          · exact h5 j a (by omega))
      · rw [if_neg (fun x => y ((n32 t3).mp x))]
        obtain ⟨e, b1, b2, b3, b4⟩ := last_ok ht hp
        have ht1 : rText len tx (q_w m 71 T (nI p)) n := ht.of (by rw [q_w_row _ _ _ (by omega)]) (q_w_row _ _ _ (by omega)) rfl rfl
        rw [b3, Option.bind_some, q_in_nI (j := T) (by omega) (by omega), nI_clamp (n := T) (by omega), cond_true, isFigC_ok ht1 hp, Option.bind_some, cond_true, cond_true]
        have tk : tkAt len tx (P T) p e := ⟨h4, h5, Or.inr ⟨hp, y, b1, b2, b4⟩⟩
        have go : ∀ m2, m2 = q_w (q_w m 71 T (nI p)) 70 T (nI (tv len tx p e)) → ∃ T' m' P' B', FL_Re_split_1_4 fu m2 (nI T + 1) (nI (e - 1) + 1) = some (nI T', m') ∧ T' ≤ len ∧ tkD len tx m' T' P' B' ∧ P' 0 = 0 ∧ P' T' ≤ len ∧ (∀ j, P' T' ≤ j → j < len → tx j = 32) ∧ ∀ k, k ≠ 70 → k ≠ 71 → m' k = m k := by
          intro m2 hm2
          have r2 : ∀ k, k ≠ 70 → k ≠ 71 → m2 k = m k := fun k k1 k2 => by rw [hm2, q_w_row _ _ _ k1, q_w_row _ _ _ k2]
          have ht2 : rText len tx m2 n := ht.of (by rw [r2 _ (by omega) (by omega)]) (r2 _ (by omega) (by omega)) rfl rfl
          rw [nI_1, nI_1, show e - 1 + 1 = e by omega]
          have D : tkD len tx m2 (T + 1) (up1 P (T + 1) e) (up1 B T p) := by
            intro k hk
            by_cases x : k = T
            · subst x
              rw [up1_same, up1_same, up1_ne _ _ (by omega)]
              exact ⟨tk, hp, by rw [hm2, q_w_row _ _ _ (by omega), q_w_same], by rw [hm2, q_w_same]⟩
            · obtain ⟨q1, q2, q3, q4⟩ := h2 k (by omega)
              rw [up1_ne _ _ (show k ≠ T + 1 by omega), up1_ne _ _ (show k + 1 ≠ T + 1 by omega), up1_ne _ _ x]
              exact ⟨q1, q2, by rw [hm2, q_w_row _ _ _ (by omega), q_w_ne _ _ (by omega)]; exact q3, by rw [hm2, q_w_ne _ _ (by omega), q_w_row _ _ _ (by omega)]; exact q4⟩
          obtain ⟨T', m', P', B', i1, i2, i3, i4, i5, i6, i7⟩ := ih e fu (T + 1) m2 n (up1 P (T + 1) e) (up1 B T p) (by omega) b2 (by omega) ht2 (by omega) D (by rw [up1_ne _ _ (by omega)]; exact h3) (by rw [up1_same]; omega) (fun j a b => by rw [up1_same] at a; omega)
          exact ⟨T', m', P', B', i1, i2, i3, i4, i5, i6, fun k k1 k2 => by rw [i7 k k1 k2, r2 k k1 k2]⟩
        rcases b4 with ⟨c1, c2⟩ | ⟨c1, c2, c3⟩
        · have tvv : tv len tx p e = tx p := by unfold tv; rw [if_neg (by omega), c1]; rfl
          rw [c1, if_neg (show ¬ false = true by decide), if_pos rfl]
          exact go _ (by rw [tvv])
        · have tvv : tv len tx p e = if gd tx p (e - p) = true then 258 + nv tx p (e - p) else 257 := by unfold tv; rw [if_neg (by omega), if_pos c1]
          rw [c1, if_pos rfl, if_neg ne1, tokFig_ok ht1 b1 b2 c2, Option.bind_some]
          exact go _ (by rw [tvv])
/-- the rows of tokens hold the whole text -/
def tkS (len : Nat) (tx : Nat → Nat) (m : Nat → Nat → Int32) (T : Nat) (P B : Nat → Nat) : Prop := T ≤ len ∧ P 0 = 0 ∧ ∀ k, k ≤ T → tkAt len tx (P k) (B k) (P (k + 1)) ∧ m 71 k = nI (B k) ∧ m 70 k = nI (tv len tx (B k) (P (k + 1))) ∧ (k < T → B k < len) ∧ (k = T → B k = len)
theorem split_ok {len : Nat} {tx : Nat → Nat} {m n : Nat → Nat → Int32} (ht : rText len tx m n) : ∃ m' T P B, F_Re_split_1 m = some m' ∧ tkS len tx m' T P B ∧ ∀ k, k ≠ 70 → k ≠ 71 → m' k = m k := by
  have hfu := qFU_big
  have l2 := ht.2.2.1
  obtain ⟨T, m1, P, B, i1, i2, i3, i4, i5, i6, i7⟩ := splitL (len := len) (tx := tx) len 0 qFU 0 m n (fun _ => 0) (fun _ => 0) (by omega) (by omega) (by omega) ht (by omega) (fun k hk => absurd hk (by omega)) rfl (by omega) (fun j a b => absurd b (by omega))
  have e1 : m1 1 1 = nI len := by rw [i7 1 (by omega) (by omega)]; exact ht.1
  refine ⟨q_w (q_w m1 71 T (nI len)) 70 T 256, T, up1 P (T + 1) len, up1 B T len, ?_, ⟨i2, by rw [up1_ne _ _ (by omega)]; exact i4, fun k hk => ?_⟩, fun k k1 k2 => by rw [q_w_row _ _ _ k1, q_w_row _ _ _ k2, i7 k k1 k2]⟩
  · unfold F_Re_split_1
    rw [show FL_Re_split_1_4 qFU m 0 0 = _ from i1, Option.bind_some]
    dsimp only
    rw [q_in_nI (j := T) (by omega) (by omega), nI_clamp (n := T) (by omega), e1]
    rfl
  · by_cases x : k = T
    · subst x
      rw [up1_same, up1_same, up1_ne _ _ (by omega)]
      refine ⟨⟨i5, i6, Or.inl ⟨rfl, rfl⟩⟩, by rw [q_w_row _ _ _ (by omega), q_w_same], ?_, fun h => absurd h (by omega), fun _ => rfl⟩
      rw [q_w_same]
      unfold tv
      rw [if_pos rfl]
      rfl
    · obtain ⟨q1, q2, q3, q4⟩ := i3 k (by omega)
      rw [up1_ne _ _ (show k ≠ T + 1 by omega), up1_ne _ _ (show k + 1 ≠ T + 1 by omega), up1_ne _ _ x]
      exact ⟨q1, by rw [q_w_row _ _ _ (by omega), q_w_ne _ _ (by omega)]; exact q3, by rw [q_w_ne _ _ (by omega), q_w_row _ _ _ (by omega)]; exact q4, fun _ => q2, fun h => absurd h x⟩
/-- where a fault is told -/
def fpl (m : Nat → Nat → Int32) (p : Nat) : Prop := ∃ i, i ≤ 200 ∧ m 1 5 = nI i ∧ m 71 i = nI p
/-- both stand at the same token -/
def tRl (len : Nat) (tx : Nat → Nat) (m n : Nat → Nat → Int32) (b e : Nat) : Prop := fpl m b ∧ (∃ (i T : Nat) (P B : Nat → Nat), m 1 5 = nI i ∧ i ≤ T ∧ tkS len tx m T P B ∧ b = B i ∧ e = P (i + 1)) ∧ n 56 11 = nI e ∧ n 56 13 = nI b ∧ b ≤ e ∧ e ≤ len ∧ ((m 70 (m 1 5).toNatClampNeg = 256 ∧ n 56 12 = 0) ∨ (b < e ∧ ((∃ v, v ≤ 99 ∧ m 70 (m 1 5).toNatClampNeg = nI (258 + v) ∧ n 56 12 = 2 ∧ n 56 14 = nI v) ∨ (m 70 (m 1 5).toNatClampNeg = 257 ∧ n 56 12 = 2 ∧ n 56 14 = nI 100) ∨ ∃ c, c < 256 ∧ m 70 (m 1 5).toNatClampNeg = nI c ∧ n 56 14 = nI c ∧ ((n 56 12 = 1 ∧ isl c = true) ∨ (n 56 12 = 3 ∧ c = 59) ∨ (n 56 12 = 4 ∧ isl c = false ∧ c ≠ 59)))))
theorem fpl.q {m : Nat → Nat → Int32} {p : Nat} (h : fpl m p) : q_in (m 1 5) 201 = true := by
  obtain ⟨i, h1, h2, _⟩ := h
  rw [h2]
  exact q_in_nI (by omega) (by omega)
theorem fpl.at {m : Nat → Nat → Int32} {p : Nat} (h : fpl m p) : m 71 (m 1 5).toNatClampNeg = nI p := by
  obtain ⟨i, h1, h2, h3⟩ := h
  rw [h2, nI_clamp (by omega)]
  exact h3
theorem tRl_mk {len : Nat} {tx : Nat → Nat} {m n : Nat → Nat → Int32} {i T : Nat} {P B : Nat → Nat} (hl : len ≤ 200) (hc : ∀ j, j < len → tx j < 256) (h5 : m 1 5 = nI i) (hi : i ≤ T) (hS : tkS len tx m T P B) (k11 : n 56 11 = nI (P (i + 1))) (k13 : n 56 13 = nI (B i)) (hK : refK len tx (B i) (P (i + 1)) n) : tRl len tx m n (B i) (P (i + 1)) := by
  obtain ⟨s1, s2, s3⟩ := hS
  have T2 := s1
  obtain ⟨q1, q2, q3, q4, q5⟩ := s3 i hi
  have e70 : m 70 (m 1 5).toNatClampNeg = nI (tv len tx (B i) (P (i + 1))) := by rw [h5, nI_clamp (by omega)]; exact q3
  have bl : B i ≤ P (i + 1) ∧ P (i + 1) ≤ len := by
    rcases q1.2.2 with ⟨a1, a2⟩ | ⟨a1, a2, a3, a4, _⟩
    · omega
    · omega
  refine ⟨⟨i, by omega, h5, q2⟩, ⟨i, T, P, B, h5, hi, ⟨s1, s2, s3⟩, rfl, rfl⟩, k11, k13, bl.1, bl.2, ?_⟩
  rw [e70]
  unfold tv
  rcases hK with ⟨a1, a2⟩ | ⟨a1, a2⟩
  · left
    rw [if_pos a1]
    exact ⟨rfl, a2⟩
  · right
    rw [if_neg (by omega)]
    rcases q1.2.2 with ⟨c1, c2⟩ | ⟨c1, c2, c3, c4, c5⟩
    · omega
    · refine ⟨c3, ?_⟩
      rcases a2 with ⟨d1, d2, d3⟩ | ⟨d1, d2, d3⟩
      · rw [if_pos d1]
        rcases c5 with ⟨f1, f2⟩ | ⟨f1, f2, f3⟩
        · rw [d1] at f1
          exact absurd f1 (by decide)
        · by_cases g : gd tx (B i) (P (i + 1) - B i) = true
          · rw [if_pos g] at d3 ⊢
            exact Or.inl ⟨_, nv_99 c3 f2, rfl, d2, d3⟩
          · rw [if_neg g] at d3 ⊢
            exact Or.inr (Or.inl ⟨rfl, d2, d3⟩)
      · rw [if_neg (by rw [d1]; decide)]
        exact Or.inr (Or.inr ⟨tx (B i), hc _ a1, rfl, d2, d3⟩)
/-- on to the next token -/
def gOn (m : Nat → Nat → Int32) : Option (Nat → Nat → Int32) := some (q_w m 1 5 (m 1 5 + 1))
theorem next_ok {len : Nat} {tx : Nat → Nat} {m n nw : Nat → Nat → Int32} {b e : Nat} (ht : rText len tx m n) (hr : tRl len tx m n b e) (hbe : b < e) (h56 : nw 56 = n 56) (h57 : nw 57 = n 57) : ∃ m' n' b' e', gOn m = some m' ∧ F_Mo_token nw = some n' ∧ frC m m' ∧ frM nw n' ∧ e ≤ b' ∧ tRl len tx m' n' b' e' := by
  have l2 := ht.2.2.1
  have ht' : rText len tx m nw := ht.of rfl rfl (by rw [h56]) h57
  obtain ⟨i, T, P, B, c1, c2, c3, c4, c5⟩ := hr.2.1
  obtain ⟨n', b', e', a1, a2, a3, a4, a5, a6⟩ := tokM_ok (p := e) ht' hr.2.2.2.2.2.1 (by rw [h56]; exact hr.2.2.1)
  have iT : i < T := by
    apply Classical.byContradiction
    intro z
    obtain ⟨q1, q2, q3, q4, q5⟩ := c3.2.2 i c2
    have := q5 (by omega)
    rcases q1.2.2 with ⟨d1, d2⟩ | ⟨d1, _⟩
    · omega
    · omega
  have c32 := c3
  obtain ⟨q1, q2, q3, q4, q5⟩ := c3.2.2 (i + 1) (by omega)
  rw [← c5] at q1
  obtain ⟨u1, u2⟩ := tkAt_uq q1 a3
  subst u1
  subst u2
  have f0 : frC m (q_w m 1 5 (nI (i + 1))) := (frC.rf m).w _
  have S2 : tkS len tx (q_w m 1 5 (nI (i + 1))) T P B := by
    refine ⟨c32.1, c32.2.1, fun k hk => ?_⟩
    obtain ⟨r1, r2, r3, r4, r5⟩ := c32.2.2 k hk
    exact ⟨r1, by rw [q_w_row _ _ _ (by omega)]; exact r2, by rw [q_w_row _ _ _ (by omega)]; exact r3, r4, r5⟩
  refine ⟨q_w m 1 5 (nI (i + 1)), n', B (i + 1), P (i + 1 + 1), ?_, a1, f0, a2, a3.1, ?_⟩
  · unfold gOn
    rw [c1, nI_1]
  · exact tRl_mk l2 (fun j hj => (ht.2.2.2 j hj).2.2) (q_w_same _ _ _ _) (by omega) S2 a4 a5 a6
theorem first_ok {len : Nat} {tx : Nat → Nat} {m n : Nat → Nat → Int32} {T : Nat} {P B : Nat → Nat} (ht : rText len tx m n) (hS : tkS len tx m T P B) (h5 : m 1 5 = 0) (h11 : n 56 11 = 0) : ∃ n' b e, F_Mo_token n = some n' ∧ frM n n' ∧ tRl len tx m n' b e := by
  have l2 := ht.2.2.1
  obtain ⟨n', b', e', a1, a2, a3, a4, a5, a6⟩ := tokM_ok (p := 0) ht (by omega) h11
  obtain ⟨q1, q2, q3, q4, q5⟩ := hS.2.2 0 (by omega)
  rw [hS.2.1] at q1
  obtain ⟨u1, u2⟩ := tkAt_uq q1 a3
  subst u1
  subst u2
  exact ⟨n', _, _, a1, a2, tRl_mk l2 (fun j hj => (ht.2.2.2 j hj).2.2) h5 (Nat.zero_le T) hS a4 a5 a6⟩
