/-! the text: an item -/
noncomputable def rst (n : Nat → Nat → Int32) : Option (Int32 × (Nat → Nat → Int32)) := Option.bind (F_Mo_readsItem n) (fun (r2, m3) => if r2 = 0 then some (0, m3) else if m3 56 12 = 3 then Option.bind (F_Mo_token (q_w m3 59 6 (m3 59 6 + 1))) (fun m7 => some (1, m7)) else some (0, m3))
def iOut (len : Nat) (tx : Nat → Nat) (it b : Nat) (m n : Nat → Nat → Int32) (rc rm : Option (Int32 × (Nat → Nat → Int32))) : Prop := ∃ m' n', frCd m m' ∧ frMd n n' ∧ ((rc = some (0, m') ∧ rm = some (0, n') ∧ ∃ p, p ≤ 200 ∧ fpl m' p ∧ n' 56 13 = nI p) ∨ (rc = some (1, m') ∧ rm = some (1, n') ∧ ∃ l' b' e', b < b' ∧ tRl len tx m' n' b' e' ∧ dA l' (it + 1) m' n'))
theorem dA_it {l : aL} {it : Nat} {m n : Nat → Nat → Int32} (h : dA l it m n) : dA l (it + 1) m (q_w n 59 6 (nI (it + 1))) := by
  have o := h.1
  have h5 := o.2.1
  have h8 := o.2.2.1
  exact ⟨h.1, h.2.1, ⟨(by first | exact q_w_same _ _ _ _ | ((repeat (rw [q_w_ne _ _ (by omega)])); exact h.2.2.1.1)), (by first | exact q_w_same _ _ _ _ | ((repeat (rw [q_w_ne _ _ (by omega)])); exact h.2.2.1.2.1)), (by first | exact q_w_same _ _ _ _ | ((repeat (rw [q_w_ne _ _ (by omega)])); exact h.2.2.1.2.2.1)), (by first | exact q_w_same _ _ _ _ | ((repeat (rw [q_w_ne _ _ (by omega)])); exact h.2.2.1.2.2.2.1)), (by first | exact q_w_same _ _ _ _ | ((repeat (rw [q_w_ne _ _ (by omega)])); exact h.2.2.1.2.2.2.2.1)), (by first | exact q_w_same _ _ _ _ | ((repeat (rw [q_w_ne _ _ (by omega)])); exact h.2.2.1.2.2.2.2.2.1)), (by first | exact q_w_same _ _ _ _ | ((repeat (rw [q_w_ne _ _ (by omega)])); exact h.2.2.1.2.2.2.2.2.2.1)), (fun k hk => by first | ((repeat (rw [q_w_ne _ _ (by omega)])); exact h.2.2.1.2.2.2.2.2.2.2.1 k hk)), (fun k hk => by first | ((repeat (rw [q_w_ne _ _ (by omega)])); exact h.2.2.1.2.2.2.2.2.2.2.2.1 k hk)), (fun k hk => by first | ((repeat (rw [q_w_ne _ _ (by omega)])); exact h.2.2.1.2.2.2.2.2.2.2.2.2.1 k hk)), (fun k hk => by first | ((repeat (rw [q_w_ne _ _ (by omega)])); exact h.2.2.1.2.2.2.2.2.2.2.2.2.2 k hk))⟩, h.2.2.2.fr rfl (q_w_ne _ _ (by omega))⟩
theorem item_fin {len : Nat} {tx : Nat → Nat} {it b : Nat} {m n m6 : Nat → Nat → Int32} {a r4 : Int32} (ht : rText len tx m n) (hq : q_in (m 1 5) 201 = true) (h1 : F_Re_canBegin_1 m (m 70 (m 1 5).toNatClampNeg) a = some 1) (h2 : F_Re_bitOf (m 70 (m 1 5).toNatClampNeg) = some r4) (h3 : gOn (q_w m 1 6 (m 1 6 ||| r4)) = some m6) (hb : bOut len tx it b m n (F_Re_readBody_1 m6 (m 70 (m 1 5).toNatClampNeg)) (F_Mo_readsItem n)) : iOut len tx it b m n (F_Re_readItem_1 m a) (rst n) := by
  obtain ⟨mB, nB, f1, f2, hB⟩ := hb
  have e6 : q_w (q_w m 1 6 (m 1 6 ||| r4)) 1 5 (m 1 5 + 1) = m6 := by
    have h4 : some (q_w (q_w m 1 6 (m 1 6 ||| r4)) 1 5 ((q_w m 1 6 (m 1 6 ||| r4)) 1 5 + 1)) = some m6 := h3
    rw [q_w_ne _ _ (show 1 ≠ 1 ∨ 5 ≠ 6 by omega)] at h4
    exact Option.some.inj h4
  unfold F_Re_readItem_1 rst
  rw [hq, cond_true, h1, Option.bind_some, if_neg ne1, h2, Option.bind_some, e6]
  rcases hB with ⟨a1, a2, p, p1, p2, p3⟩ | ⟨a1, a2, l', b', e', b1, b2, b3⟩
  · refine ⟨mB, nB, f1, f2, Or.inl ⟨?_, ?_, p, p1, p2, p3⟩⟩
    · rcases a1 with a1 | ⟨a1, a3⟩
      · rw [a1]
        rfl
      · rw [a1, Option.bind_some]
        dsimp only
        rw [if_neg ne1, p2.q, cond_true, if_neg a3]
    · rcases a2 with a2 | ⟨a2, a3⟩
      · rw [a2]
        rfl
      · rw [a2, Option.bind_some]
        dsimp only
        rw [if_neg ne1, if_neg a3]
  · rw [a1, a2, Option.bind_some, Option.bind_some]
    dsimp only
    rw [if_neg ne1, if_neg ne1, b2.1.q, cond_true]
    have st := tRl_stop b2
    have htB : rText len tx mB nB := ht.frd f1 f2
    have l2 := ht.2.2.1
    have be := b2.2.2.2.2.1
    have bl := b2.2.2.2.2.2.1
    by_cases z : mB 70 (mB 1 5).toNatClampNeg = 59
    · rw [if_pos z, if_pos (st.mp z), b3.2.2.1.2.2.2.2.2.2.1, nI_1]
      obtain ⟨m', n', b'', e'', c1, c2, c3, c4, c5, c6⟩ := next_ok (nw := q_w nB 59 6 (nI (it + 1))) htB b2 (tRl_adv b2 (by rw [z]; decide)) (q_w_row _ _ _ (by omega)) (q_w_row _ _ _ (by omega))
      have c1' : some (q_w mB 1 5 (mB 1 5 + 1)) = some m' := c1
      rw [Option.some.inj c1', c2]
      exact ⟨m', n', f1.tr c3.d, (f2.w _ _).tr c4.d, Or.inr ⟨rfl, rfl, l', b'', e'', by omega, c6, (dA_it b3).fr c3 c4⟩⟩
    · rw [if_neg z, if_neg (fun y => z (st.mpr y))]
      exact ⟨mB, nB, f1, f2, Or.inl ⟨rfl, rfl, b', by omega, b2.1, b2.2.2.2.1⟩⟩
theorem and_bit {A k : Nat} (hA : A < 2 ^ 31) : nI A &&& nI (2 ^ k) = 0 ↔ A.testBit k = false := by
  rw [nI_and]
  have hle : A &&& 2 ^ k ≤ A := Nat.and_le_left
  have e : nI (A &&& 2 ^ k) = 0 ↔ A &&& 2 ^ k = 0 := nI_eq (b := 0) (by omega) (by omega)
  rw [e]
  constructor
  · intro z
    have h1 : (A &&& 2 ^ k).testBit k = (A.testBit k && (2 ^ k).testBit k) := Nat.testBit_and ..
    rw [z, Nat.zero_testBit, Nat.testBit_two_pow] at h1
    simpa using h1.symm
  · intro z
    apply Nat.eq_of_testBit_eq
    intro i
    rw [Nat.zero_testBit, Nat.testBit_and, Nat.testBit_two_pow]
    by_cases y : k = i
    · rw [← y, z]
      rfl
    · simp [y]
theorem td_o {m n : Nat → Nat → Int32} (h : dTd m n) {k o : Nat} (hko : (k = 18 ∧ o = 0) ∨ (k = 19 ∧ o = 1) ∨ (k = 17 ∧ o = 2) ∨ (k = 2 ∧ o = 3)) : dTd (q_w m 1 6 (m 1 6 ||| nI (2 ^ k))) (q_w n 59 7 (n 59 7 ||| nI (2 ^ o))) ∧ ((m 1 6 &&& nI (2 ^ k) = 0 ∧ (n 59 7 >>> (nI o &&& 31)) &&& 1 = 0) ∨ (¬ m 1 6 &&& nI (2 ^ k) = 0 ∧ (n 59 7 >>> (nI o &&& 31)) &&& 1 = 1)) := by
  obtain ⟨A, O, a1, a2, o1, o2, b0, b1, b2, b3⟩ := h
  have kb : 2 ^ k < 2 ^ 26 := Nat.pow_lt_pow_right (by omega) (by omega)
  have ob : 2 ^ o < 2 ^ 4 := Nat.pow_lt_pow_right (by omega) (by omega)
  have eq : A.testBit k = O.testBit o := by
    rcases hko with ⟨rfl, rfl⟩ | ⟨rfl, rfl⟩ | ⟨rfl, rfl⟩ | ⟨rfl, rfl⟩
    · exact b0
    · exact b1
    · exact b2
    · exact b3
  constructor
  · refine ⟨A ||| 2 ^ k, O ||| 2 ^ o, by rw [q_w_same, a1, nI_or], Nat.or_lt_two_pow a2 kb, by rw [q_w_same, o1, nI_or], Nat.or_lt_two_pow (n := 4) o2 ob, ?_⟩
    rw [Nat.testBit_or, Nat.testBit_or, Nat.testBit_or, Nat.testBit_or, Nat.testBit_or, Nat.testBit_or, Nat.testBit_or, Nat.testBit_or, Nat.testBit_two_pow, Nat.testBit_two_pow, Nat.testBit_two_pow, Nat.testBit_two_pow, Nat.testBit_two_pow, Nat.testBit_two_pow, Nat.testBit_two_pow, Nat.testBit_two_pow, b0, b1, b2, b3]
    rcases hko with ⟨rfl, rfl⟩ | ⟨rfl, rfl⟩ | ⟨rfl, rfl⟩ | ⟨rfl, rfl⟩
    all_goals exact ⟨rfl, rfl, rfl, rfl⟩
  · rw [a1, o1, and_bit (by omega), eq]
    rcases bit_cases (S := O) (i := o) (by omega) (by omega) with ⟨c1, c2⟩ | ⟨c1, c2⟩
    · exact Or.inr ⟨by rw [c1]; decide, c2⟩
    · exact Or.inl ⟨c1, c2⟩
theorem td_n {m n : Nat → Nat → Int32} (h : dTd m n) {k : Nat} (hk : k = 13 ∨ k = 5 ∨ k = 21 ∨ k = 7) : dTd (q_w m 1 6 (m 1 6 ||| nI (2 ^ k))) n := by
  obtain ⟨A, O, a1, a2, o1, o2, b0, b1, b2, b3⟩ := h
  have kb : 2 ^ k < 2 ^ 26 := Nat.pow_lt_pow_right (by omega) (by omega)
  refine ⟨A ||| 2 ^ k, O, by rw [q_w_same, a1, nI_or], Nat.or_lt_two_pow a2 kb, o1, o2, ?_⟩
  rw [Nat.testBit_or, Nat.testBit_or, Nat.testBit_or, Nat.testBit_or, Nat.testBit_two_pow, Nat.testBit_two_pow, Nat.testBit_two_pow, Nat.testBit_two_pow, b0, b1, b2, b3]
  rcases hk with rfl | rfl | rfl | rfl
  all_goals exact ⟨Bool.or_false _, Bool.or_false _, Bool.or_false _, Bool.or_false _⟩
theorem isl_no : ∀ c, c < 256 → isl c = false → ¬ nI c = 99 ∧ ¬ nI c = 102 ∧ ¬ nI c = 104 ∧ ¬ nI c = 110 ∧ ¬ nI c = 114 ∧ ¬ nI c = 115 ∧ ¬ nI c = 116 ∧ ¬ nI c = 118 := by decide +kernel
theorem big_no : ∀ v, v < 100 → ¬ nI (258 + v) = 99 ∧ ¬ nI (258 + v) = 102 ∧ ¬ nI (258 + v) = 104 ∧ ¬ nI (258 + v) = 110 ∧ ¬ nI (258 + v) = 114 ∧ ¬ nI (258 + v) = 115 ∧ ¬ nI (258 + v) = 116 ∧ ¬ nI (258 + v) = 118 := by decide +kernel
theorem isl_yes : ∀ c, c < 256 → isl c = true → c = 99 ∨ c = 102 ∨ c = 104 ∨ c = 110 ∨ c = 114 ∨ c = 115 ∨ c = 116 ∨ c = 118 := by decide +kernel
theorem begin_no {m : Nat → Nat → Int32} {x a : Int32} (h : ¬ x = 99 ∧ ¬ x = 102 ∧ ¬ x = 104 ∧ ¬ x = 110 ∧ ¬ x = 114 ∧ ¬ x = 115 ∧ ¬ x = 116 ∧ ¬ x = 118) : F_Re_canBegin_1 m x a = some 0 := by
  obtain ⟨h1, h2, h3, h4, h5, h6, h7, h8⟩ := h
  unfold F_Re_canBegin_1
  rw [if_neg h1, if_neg h2, if_neg h3, if_neg h4, if_neg h5, if_neg h6, if_neg h7, if_neg h8]
/-- nothing is taken at the letter -/
theorem item_no {tx : Nat → Nat} {len : Nat} {it b e : Nat} {m n n0 : Nat → Nat → Int32} {a : Int32} (hl : len ≤ 200) (hr : tRl len tx m n b e) (h1 : F_Re_canBegin_1 m (m 70 (m 1 5).toNatClampNeg) a = some 0) (h2 : F_Mo_readsItem n = some (0, n0)) (h3 : frMd n n0) (h4 : n0 56 = n 56) : iOut len tx it b m n (F_Re_readItem_1 m a) (rst n) := by
  have be := hr.2.2.2.2.1
  have bl := hr.2.2.2.2.2.1
  refine ⟨m, n0, frCd.rf _, h3, Or.inl ⟨?_, ?_, b, by omega, hr.1, by rw [h4]; exact hr.2.2.2.1⟩⟩
  · unfold F_Re_readItem_1
    rw [hr.1.q, cond_true, h1]
    rfl
  · unfold rst
    rw [h2]
    rfl
theorem item_ok {len : Nat} {tx : Nat → Nat} {it b e : Nat} {l : aL} {m n : Nat → Nat → Int32} (ht : rText len tx m n) (hr : tRl len tx m n b e) (hne : ¬ m 70 (m 1 5).toNatClampNeg = 256) (h : dA l it m n) (hit : it ≤ 200) (h0 : it = 0 → lK l = 0 ∧ ∀ k, k < 64 → lF l k = 0) : iOut len tx it b m n (F_Re_readItem_1 m (if it = 0 then 1 else 0)) (rst n) := by
  have l2 := ht.2.2.1
  have adv := tRl_adv hr hne
  have no : ∀ x : Int32, m 70 (m 1 5).toNatClampNeg = x → (¬ x = 99 ∧ ¬ x = 102 ∧ ¬ x = 104 ∧ ¬ x = 110 ∧ ¬ x = 114 ∧ ¬ x = 115 ∧ ¬ x = 116 ∧ ¬ x = 118) → ¬ n 56 12 = 1 → iOut len tx it b m n (F_Re_readItem_1 m (if it = 0 then 1 else 0)) (rst n) := by
    intro x hx hl hs
    refine item_no (n0 := n) l2 hr (by rw [hx]; exact begin_no hl) ?_ (frMd.rf _) rfl
    unfold F_Mo_readsItem
    rw [if_neg hs]
  rcases hr.2.2.2.2.2.2 with ⟨h1, h2⟩ | ⟨_, ⟨v, hv, h1, h2, h14⟩ | ⟨h1, h2, h14⟩ | ⟨c, hc, h1, h14, h2⟩⟩
  · exact absurd h1 hne
  · exact no (nI (258 + v)) h1 (big_no v (by omega)) (by rw [h2]; decide)
  · exact no 257 h1 (by decide) (by rw [h2]; decide)
  · rcases h2 with ⟨s1, il⟩ | ⟨s1, il⟩ | ⟨s1, il, _⟩
    · -- a letter: what follows it
      have nxt : ∀ (k : Nat) (n0 : Nat → Nat → Int32), n0 56 = n 56 → n0 57 = n 57 → ∃ m6 n1 b1 e1, gOn (q_w m 1 6 (m 1 6 ||| nI (2 ^ k))) = some m6 ∧ F_Mo_token n0 = some n1 ∧ frC (q_w m 1 6 (m 1 6 ||| nI (2 ^ k))) m6 ∧ frM n0 n1 ∧ b < b1 ∧ tRl len tx m6 n1 b1 e1 := by
        intro k n0 g1 g2
        have f0 : frCd m (q_w m 1 6 (m 1 6 ||| nI (2 ^ k))) := (frCd.rf m).w _ (by omega)
        have ht0 : rText len tx (q_w m 1 6 (m 1 6 ||| nI (2 ^ k))) n := ht.frd f0 (frMd.rf _)
        have hr0 : tRl len tx (q_w m 1 6 (m 1 6 ||| nI (2 ^ k))) n b e := hr.of (q_w_ne _ _ (by omega)) (q_w_row _ _ _ (by omega)) (q_w_row _ _ _ (by omega)) rfl
        obtain ⟨m6, n1, b1, e1, a1, a2, a3, a4, a5, a6⟩ := next_ok (nw := n0) ht0 hr0 adv g1 g2
        exact ⟨m6, n1, b1, e1, a1, a2, a3, a4, by omega, a6⟩
      have cl0 : ∀ k, dCl l (q_w m 1 6 (m 1 6 ||| nI (2 ^ k))) := fun k => h.2.1.fr (q_w_row _ _ _ (by omega)) (q_w_row _ _ _ (by omega)) (q_w_row _ _ _ (by omega)) (q_w_row _ _ _ (by omega)) (q_w_row _ _ _ (by omega))
      have f0 : ∀ k, frCd m (q_w m 1 6 (m 1 6 ||| nI (2 ^ k))) := fun k => (frCd.rf m).w _ (by omega)
      have once : ∀ o, dMo l it (q_w n 59 7 (n 59 7 ||| nI (2 ^ o))) := fun o => by
        have h5 := h.1.2.1
        have h8 := h.1.2.2.1
        exact ⟨(by first | exact q_w_same _ _ _ _ | ((repeat (rw [q_w_ne _ _ (by omega)])); exact h.2.2.1.1)), (by first | exact q_w_same _ _ _ _ | ((repeat (rw [q_w_ne _ _ (by omega)])); exact h.2.2.1.2.1)), (by first | exact q_w_same _ _ _ _ | ((repeat (rw [q_w_ne _ _ (by omega)])); exact h.2.2.1.2.2.1)), (by first | exact q_w_same _ _ _ _ | ((repeat (rw [q_w_ne _ _ (by omega)])); exact h.2.2.1.2.2.2.1)), (by first | exact q_w_same _ _ _ _ | ((repeat (rw [q_w_ne _ _ (by omega)])); exact h.2.2.1.2.2.2.2.1)), (by first | exact q_w_same _ _ _ _ | ((repeat (rw [q_w_ne _ _ (by omega)])); exact h.2.2.1.2.2.2.2.2.1)), (by first | exact q_w_same _ _ _ _ | ((repeat (rw [q_w_ne _ _ (by omega)])); exact h.2.2.1.2.2.2.2.2.2.1)), (fun k hk => by first | ((repeat (rw [q_w_ne _ _ (by omega)])); exact h.2.2.1.2.2.2.2.2.2.2.1 k hk)), (fun k hk => by first | ((repeat (rw [q_w_ne _ _ (by omega)])); exact h.2.2.1.2.2.2.2.2.2.2.2.1 k hk)), (fun k hk => by first | ((repeat (rw [q_w_ne _ _ (by omega)])); exact h.2.2.1.2.2.2.2.2.2.2.2.2.1 k hk)), (fun k hk => by first | ((repeat (rw [q_w_ne _ _ (by omega)])); exact h.2.2.1.2.2.2.2.2.2.2.2.2.2 k hk))⟩
      -- letters that stand once
      have go1 : ∀ (k o : Nat) (x : Int32) (B : (Nat → Nat → Int32) → Option (Int32 × (Nat → Nat → Int32))), m 70 (m 1 5).toNatClampNeg = x → ((k = 18 ∧ o = 0) ∨ (k = 19 ∧ o = 1) ∨ (k = 17 ∧ o = 2) ∨ (k = 2 ∧ o = 3)) → (∀ a, F_Re_canBegin_1 m x a = if (m 1 6 &&& nI (2 ^ k)) = 0 then some 1 else some 0) → F_Re_bitOf x = some (nI (2 ^ k)) → F_Mo_readsItem n = Option.bind (F_Mo_isOnce n (nI o)) (fun (r, m3) => if r = 0 then some (0, m3) else B m3) → (1 : Int32) <<< (nI o &&& 31) = nI (2 ^ o) → (∀ m6 n0 n1 b1 e1, rText len tx m6 n1 → tRl len tx m6 n1 b1 e1 → b < b1 → frCd m m6 → frMd n n1 → F_Mo_token n0 = some n1 → dA l it m6 n1 → bOut len tx it b m n (F_Re_readBody_1 m6 x) (B n0)) → iOut len tx it b m n (F_Re_readItem_1 m (if it = 0 then 1 else 0)) (rst n) := by
        intro k o x B hx hko hbeg hbit hri hsh hbody
        obtain ⟨td, tc⟩ := td_o h.2.2.2 hko
        have io : F_Mo_isOnce n (nI o) = if ((n 59 7 >>> (nI o &&& 31)) &&& 1) = 0 then some (1, (q_w n 59 7 (n 59 7 ||| nI (2 ^ o)))) else some (0, (q_w n 59 7 (n 59 7 ||| nI (2 ^ o)))) := by
          unfold F_Mo_isOnce
          rw [hsh]
        rcases tc with ⟨t1, t2⟩ | ⟨t1, t2⟩
        · obtain ⟨m6, n1, b1, e1, a1, a2, a3, a4, a5, a6⟩ := nxt k (q_w n 59 7 (n 59 7 ||| nI (2 ^ o))) (q_w_row _ _ _ (by omega)) (q_w_row _ _ _ (by omega))
          have hd : dA l it m6 n1 := dA.fr ⟨h.1, cl0 k, once o, td⟩ a3 a4
          have fm := (f0 k).tr a3.d
          have fn : frMd n n1 := ((frMd.rf n).w _ _).tr a4.d
          refine item_fin ht hr.1.q (by rw [hx, hbeg, if_pos t1]) (by rw [hx]; exact hbit) a1 ?_
          rw [hx, hri, io, if_pos t2, Option.bind_some]
          dsimp only
          rw [if_neg ne1]
          exact hbody m6 _ n1 b1 e1 (ht.frd fm fn) a6 a5 fm fn a2 hd
        · refine item_no (n0 := q_w n 59 7 (n 59 7 ||| nI (2 ^ o))) l2 hr (by rw [hx, hbeg, if_neg t1]) ?_ ((frMd.rf n).w _ _) (q_w_row _ _ _ (by omega))
          rw [hri, io, if_neg (by rw [t2]; decide)]
          rfl
      -- letters that stand more than once
      have go2 : ∀ (k : Nat) (x : Int32), m 70 (m 1 5).toNatClampNeg = x → (k = 13 ∨ k = 5 ∨ k = 21 ∨ k = 7) → F_Re_canBegin_1 m x (if it = 0 then 1 else 0) = some 1 → F_Re_bitOf x = some (nI (2 ^ k)) → (∀ m6 n1 b1 e1, rText len tx m6 n1 → tRl len tx m6 n1 b1 e1 → b < b1 → frCd m m6 → frMd n n1 → F_Mo_token n = some n1 → n 59 = n1 59 → dA l it m6 n1 → bOut len tx it b m n (F_Re_readBody_1 m6 x) (F_Mo_readsItem n)) → iOut len tx it b m n (F_Re_readItem_1 m (if it = 0 then 1 else 0)) (rst n) := by
        intro k x hx hk hbeg hbit hbody
        obtain ⟨m6, n1, b1, e1, a1, a2, a3, a4, a5, a6⟩ := nxt k n rfl rfl
        have hd : dA l it m6 n1 := dA.fr ⟨h.1, cl0 k, h.2.2.1, td_n h.2.2.2 hk⟩ a3 a4
        have fm := (f0 k).tr a3.d
        refine item_fin ht hr.1.q (by rw [hx]; exact hbeg) (by rw [hx]; exact hbit) a1 ?_
        rw [hx]
        exact hbody m6 n1 b1 e1 (ht.frd fm a4.d) a6 a5 fm a4.d a2 (a4.1 59 (by omega)).symm hd
      rcases isl_yes c hc il with rfl | rfl | rfl | rfl | rfl | rfl | rfl | rfl
      · exact go1 2 3 99 (fun n0 => wrp (F_Mo_readsCourse n0)) h1 (by omega) (fun a => rfl) (by decide) (by unfold F_Mo_readsItem; rw [s1, h14]; rfl) (by decide) (fun m6 n0 n1 b1 e1 g1 g2 g3 g4 g5 g6 g7 => body_c g1 g2 g3 g4 g5 g6 g7)
      · have ri : F_Mo_readsItem n = wqb (F_Mo_readsFurrow n) := by unfold F_Mo_readsItem; rw [s1, h14]; rfl
        exact go2 5 102 h1 (by omega) rfl (by decide) (fun m6 n1 b1 e1 g1 g2 g3 g4 g5 g6 g7 g8 => by rw [ri]; exact body_f g1 g2 g3 g4 g5 g6 g8)
      · have ri : F_Mo_readsItem n = wqb (F_Mo_readsHog n) := by unfold F_Mo_readsItem; rw [s1, h14]; rfl
        have h5 := h.1.2.1
        have cb : ∀ a, F_Re_canBegin_1 m 104 a = if 5 ≤ m 3 1 then some 0 else some 1 := fun a => rfl
        by_cases z : lH l = 5
        · refine item_no (n0 := n) l2 hr (by rw [show m 70 (m 1 5).toNatClampNeg = 104 from h1, cb, h.2.1.2.1, z, if_pos (by decide)]) ?_ (frMd.rf _) rfl
          rw [ri]
          apply wqb0
          unfold F_Mo_readsHog
          rw [h.2.2.1.2.1, z, if_pos (by decide)]
        · have g5 : ¬ (5 : Int32) ≤ nI (lH l) := (nI_ge (by omega) (by omega) : ¬ nI 5 ≤ nI (lH l))
          exact go2 7 104 h1 (by omega) (by rw [cb, h.2.1.2.1, if_neg g5]) (by decide) (fun m6 n1 b1 e1 g1 g2 g3 g4 g5 g6 g7 g8 => by rw [ri]; exact body_h g1 g2 g3 g4 g5 g6 g7 g8 (by omega))
      · have ri : F_Mo_readsItem n = if n 59 6 = 0 then wrp (F_Mo_readsNumber n 0 2 8) else some (0, n) := by unfold F_Mo_readsItem; rw [s1, h14]; rfl
        have cb : ∀ a, F_Re_canBegin_1 m 110 a = cond (q_bl a) (some a) none := fun a => rfl
        have e6 : n 59 6 = nI it := h.2.2.1.2.2.2.2.2.2.1
        by_cases z : it = 0
        · refine go2 13 110 h1 (by omega) (by rw [cb, if_pos z, q_bl1]; rfl) (by decide) (fun m6 n1 b1 e1 g1 g2 g3 g4 g5 g6 g7 g8 => ?_)
          rw [ri, e6, z, if_pos (show nI 0 = 0 from rfl)]
          rw [z] at g8
          exact body_n g1 g2 g3 g4 g5 g6 g8 (h0 z)
        · refine item_no (n0 := n) l2 hr (by rw [show m 70 (m 1 5).toNatClampNeg = 110 from h1, cb, if_neg z, q_bl0]; rfl) ?_ (frMd.rf _) rfl
          rw [ri, e6, if_neg (nI_ne0 (by omega) (by omega))]
      · exact go1 17 2 114 (fun n0 => wrp (F_Mo_readsNumber n0 5 0 99)) h1 (by omega) (fun a => rfl) (by decide) (by unfold F_Mo_readsItem; rw [s1, h14]; rfl) (by decide) (fun m6 n0 n1 b1 e1 g1 g2 g3 g4 g5 g6 g7 => body_r g1 g2 g3 g4 g5 g6 g7)
      · exact go1 18 0 115 (fun n0 => wrp (F_Mo_readsNumber n0 3 1 9)) h1 (by omega) (fun a => rfl) (by decide) (by unfold F_Mo_readsItem; rw [s1, h14]; rfl) (by decide) (fun m6 n0 n1 b1 e1 g1 g2 g3 g4 g5 g6 g7 => body_s g1 g2 g3 g4 g5 g6 g7)
      · exact go1 19 1 116 (fun n0 => wrp (F_Mo_readsNumber n0 4 0 3)) h1 (by omega) (fun a => rfl) (by decide) (by unfold F_Mo_readsItem; rw [s1, h14]; rfl) (by decide) (fun m6 n0 n1 b1 e1 g1 g2 g3 g4 g5 g6 g7 => body_t g1 g2 g3 g4 g5 g6 g7)
      · have ri : F_Mo_readsItem n = wqb (F_Mo_readsSight n) := by unfold F_Mo_readsItem; rw [s1, h14]; rfl
        exact go2 21 118 h1 (by omega) rfl (by decide) (fun m6 n1 b1 e1 g1 g2 g3 g4 g5 g6 g7 g8 => by rw [ri]; exact body_v g1 g2 g3 g4 g5 g6 g8)
    · subst il
      exact no 59 h1 (by decide) (by rw [s1]; decide)
    · exact no (nI c) h1 (isl_no c hc il) (by rw [s1]; decide)
