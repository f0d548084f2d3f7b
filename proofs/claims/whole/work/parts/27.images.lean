/-! images -/
def bcm (m : Nat → Nat → Int32) (k0 k1 : Nat) : Nat → Nat → Int32 := q_cw (q_cw (q_cw (q_cw (q_cw (q_cw (q_w m k1 1 (m k0 1)) (k0 + 1) (k1 + 1) 0 0 12) (k0 + 2) (k1 + 2) 0 0 12) (k0 + 3) (k1 + 3) 0 0 12) (k0 + 4) (k1 + 4) 0 0 12) (k0 + 5) (k1 + 5) 0 0 8) (k0 + 6) (k1 + 6) 0 0 8
theorem bcm_fr (m : Nat → Nat → Int32) {k0 k1 k : Nat} (h : k < k1 ∨ k1 + 6 < k) : bcm m k0 k1 k = m k := by
  unfold bcm
  rw [q_cw_row _ _ _ _ (by omega), q_cw_row _ _ _ _ (by omega), q_cw_row _ _ _ _ (by omega), q_cw_row _ _ _ _ (by omega), q_cw_row _ _ _ _ (by omega), q_cw_row _ _ _ _ (by omega), q_w_row _ _ _ (by omega)]
theorem bcm_0 (m : Nat → Nat → Int32) {k0 k1 : Nat} : bcm m k0 k1 k1 0 = m k1 0 := by
  unfold bcm
  rw [q_cw_row _ _ _ _ (by omega), q_cw_row _ _ _ _ (by omega), q_cw_row _ _ _ _ (by omega), q_cw_row _ _ _ _ (by omega), q_cw_row _ _ _ _ (by omega), q_cw_row _ _ _ _ (by omega), q_w_ne _ _ (by omega)]
theorem bcm_1 (m : Nat → Nat → Int32) {k0 k1 : Nat} : bcm m k0 k1 k1 1 = m k0 1 := by
  unfold bcm
  rw [q_cw_row _ _ _ _ (by omega), q_cw_row _ _ _ _ (by omega), q_cw_row _ _ _ _ (by omega), q_cw_row _ _ _ _ (by omega), q_cw_row _ _ _ _ (by omega), q_cw_row _ _ _ _ (by omega), q_w_same]
theorem bcm_d (m : Nat → Nat → Int32) {k0 k1 d i : Nat} (h : k0 + 6 < k1 ∨ k1 + 6 < k0) (hd : 1 ≤ d) (hd2 : d ≤ 6) (hi : i < 8 ∨ (i < 12 ∧ d ≤ 4)) : bcm m k0 k1 (k1 + d) i = m (k0 + d) i := by
  unfold bcm
  obtain rfl | rfl | rfl | rfl | rfl | rfl : d = 1 ∨ d = 2 ∨ d = 3 ∨ d = 4 ∨ d = 5 ∨ d = 6 := by omega
  · rw [q_cw_row _ _ _ _ (by omega), q_cw_row _ _ _ _ (by omega), q_cw_row _ _ _ _ (by omega), q_cw_row _ _ _ _ (by omega), q_cw_row _ _ _ _ (by omega), q_cw_get, if_pos (by omega), q_w_row _ _ _ (by omega), Nat.zero_add, Nat.sub_zero]
  · rw [q_cw_row _ _ _ _ (by omega), q_cw_row _ _ _ _ (by omega), q_cw_row _ _ _ _ (by omega), q_cw_row _ _ _ _ (by omega), q_cw_get, if_pos (by omega), q_cw_row _ _ _ _ (by omega), q_w_row _ _ _ (by omega), Nat.zero_add, Nat.sub_zero]
  · rw [q_cw_row _ _ _ _ (by omega), q_cw_row _ _ _ _ (by omega), q_cw_row _ _ _ _ (by omega), q_cw_get, if_pos (by omega), q_cw_row _ _ _ _ (by omega), q_cw_row _ _ _ _ (by omega), q_w_row _ _ _ (by omega), Nat.zero_add, Nat.sub_zero]
  · rw [q_cw_row _ _ _ _ (by omega), q_cw_row _ _ _ _ (by omega), q_cw_get, if_pos (by omega), q_cw_row _ _ _ _ (by omega), q_cw_row _ _ _ _ (by omega), q_cw_row _ _ _ _ (by omega), q_w_row _ _ _ (by omega), Nat.zero_add, Nat.sub_zero]
  · rw [q_cw_row _ _ _ _ (by omega), q_cw_get, if_pos (by omega), q_cw_row _ _ _ _ (by omega), q_cw_row _ _ _ _ (by omega), q_cw_row _ _ _ _ (by omega), q_cw_row _ _ _ _ (by omega), q_w_row _ _ _ (by omega), Nat.zero_add, Nat.sub_zero]
  · rw [q_cw_get, if_pos (by omega), q_cw_row _ _ _ _ (by omega), q_cw_row _ _ _ _ (by omega), q_cw_row _ _ _ _ (by omega), q_cw_row _ _ _ _ (by omega), q_cw_row _ _ _ _ (by omega), q_w_row _ _ _ (by omega), Nat.zero_add, Nat.sub_zero]
theorem bcm_N {k0 k1 : Nat} {x : aN} {m : Nat → Nat → Int32} (h : k0 + 6 < k1 ∨ k1 + 6 < k0) (hx : xC x ≤ 12) (hn : NCl k0 x m) : NCl k1 x (bcm m k0 k1) := by
  obtain ⟨c1, c2, c3, c4⟩ := hn
  refine ⟨by rw [bcm_1]; exact c1, fun i hi => ?_, fun i hi => ?_, fun i hi => ?_⟩
  · rw [bcm_d _ h (by omega) (by omega) (by omega), bcm_d _ h (by omega) (by omega) (by omega), bcm_d _ h (by omega) (by omega) (by omega), bcm_d _ h (by omega) (by omega) (by omega)]
    exact c2 i hi
  · rw [bcm_d _ h (by omega) (by omega) (by omega)]
    exact c3 i hi
  · rw [bcm_d _ h (by omega) (by omega) (by omega)]
    exact c4 i hi
theorem NMs.cp {c o c' o' : Nat} {x : aN} {n n' : Nat → Nat → Int32} (h : NMs c o x n) (hx : xC x ≤ 12) (e : ∀ k, k < 57 → n' c' (o' + k) = n c (o + k)) : NMs c' o' x n' := by
  obtain ⟨c1, c2, c3⟩ := h
  refine ⟨?_, fun i hi => ?_, fun i hi => ?_⟩
  · have := e 0 (by omega)
    rw [Nat.add_zero, Nat.add_zero] at this
    rw [this]
    exact c1
  · rw [e _ (by omega), e _ (by omega), e _ (by omega), e _ (by omega)]
    exact c2 i hi
  · rw [e _ (by omega)]
    exact c3 i hi
theorem NMo.cp {c o c' o' : Nat} {x : aN} {n n' : Nat → Nat → Int32} (h : NMo c o x n) (hx : xC x ≤ 12) (e : ∀ k, k < 65 → n' c' (o' + k) = n c (o + k)) : NMo c' o' x n' :=
  ⟨h.1.cp hx (fun k hk => e k (by omega)), fun i hi => by rw [e _ (by omega)]; exact h.2 i hi⟩
theorem rImg.cp {l : aL} {k i : Nat} {y : aN} {m m' n n' : Nat → Nat → Int32} (h : rImg l k i y m n) (e : eqr m m' k (k + 6)) (e1 : n' 63 i = n 63 i) (e2 : ∀ j, j < 65 → n' 62 (65 * i + j) = n 62 (65 * i + j)) : rImg l k i y m' n' := by
  unfold rImg at h ⊢
  rw [e1, e k (by omega) (by omega)]
  rcases h with h | h
  · exact Or.inl h
  · exact Or.inr ⟨h.1, h.2.1, h.2.2.1, h.2.2.2.1.of e, h.2.2.2.2.cp h.2.2.1.1 e2⟩
theorem keep_loop (im : Nat) (him : im < 2) : ∀ (k i fu : Nat) (n : Nat → Nat → Int32), i + k = 65 → k < fu → FL_Mo_keep_13 fu n (nI im) (nI i) = some (q_cw n 60 62 i (65 * im + i) k) := by
  intro k
  induction k with
  | zero =>
    intro i fu n h1 h2
    obtain ⟨fu, rfl⟩ : ∃ f, fu = f + 1 := ⟨fu - 1, by omega⟩
    obtain rfl : i = 65 := by omega
    rw [FL_Mo_keep_13, if_pos (by decide), cw_zero]
  | succ k ih =>
    intro i fu n h1 h2
    obtain ⟨fu, rfl⟩ : ∃ f, fu = f + 1 := ⟨fu - 1, by omega⟩
    have g1 : ¬ (65 : Int32) ≤ nI i := (nI_ge (by omega) (by omega) : ¬ nI 65 ≤ nI i)
    rw [FL_Mo_keep_13, if_neg g1, i_65, pk_mul, nI_add, i_1, nI_add, q_in_nI (j := i) (by omega) (by omega), q_in_nI (j := 65 * im + i) (by omega) (by omega), nI_clamp (n := i) (by omega), nI_clamp (n := 65 * im + i) (by omega), cond_true, cond_true, ih (i + 1) fu _ (by omega) (by omega), ← cw_step _ _ (Or.inl (by omega))]
    rfl
theorem back_loop (im : Nat) (him : im < 2) : ∀ (k i fu : Nat) (n : Nat → Nat → Int32), i + k = 65 → k < fu → FL_Mo_back_25 fu n (nI im) (nI i) = some (q_cw n 62 60 (65 * im + i) i k) := by
  intro k
  induction k with
  | zero =>
    intro i fu n h1 h2
    obtain ⟨fu, rfl⟩ : ∃ f, fu = f + 1 := ⟨fu - 1, by omega⟩
    obtain rfl : i = 65 := by omega
    rw [FL_Mo_back_25, if_pos (by decide), cw_zero]
  | succ k ih =>
    intro i fu n h1 h2
    obtain ⟨fu, rfl⟩ : ∃ f, fu = f + 1 := ⟨fu - 1, by omega⟩
    have g1 : ¬ (65 : Int32) ≤ nI i := (nI_ge (by omega) (by omega) : ¬ nI 65 ≤ nI i)
    rw [FL_Mo_back_25, if_neg g1, i_65, pk_mul, nI_add, i_1, nI_add, q_in_nI (j := i) (by omega) (by omega), q_in_nI (j := 65 * im + i) (by omega) (by omega), nI_clamp (n := i) (by omega), nI_clamp (n := 65 * im + i) (by omega), cond_true, cond_true, ih (i + 1) fu _ (by omega) (by omega), ← cw_step _ _ (Or.inl (by omega))]
    rfl
theorem two_lit (a : Int32) : (F_Mo_in a 0 1 = some 0 ∧ (a < 0 ∨ (¬ a < 0 ∧ ¬ a < 2))) ∨ (F_Mo_in a 0 1 = some 1 ∧ (a = 0 ∨ a = 1)) := by
  rcases in_lit a 0 1 (by decide) (by decide) with ⟨h1, h2⟩ | ⟨h1, j, h2, h3, rfl⟩
  · refine Or.inl ⟨h1, ?_⟩
    by_cases h0 : a < 0
    · exact Or.inl h0
    · refine Or.inr ⟨h0, fun z => h2 ⟨Int32.not_lt.mp h0, ?_⟩⟩
      obtain ⟨j, hj, rfl⟩ := nI_of h0
      have z : nI j < nI 2 := z
      rw [nI_ltI hj (by omega)] at z
      exact nI_le (by omega) (by omega)
  · refine Or.inr ⟨h1, ?_⟩
    obtain rfl | rfl : j = 0 ∨ j = 1 := by omega
    · exact Or.inl rfl
    · exact Or.inr rfl
theorem E_keep {m n : Nat → Nat → Int32} (h : rR m n) (a : Int32) : ∃ r m' n', F_AT_keep m a = some (r, m') ∧ F_Mo_keep n a = some (r, n') ∧ rR m' n' := by
  have hR := h
  obtain ⟨l, x, hz, hs, y1, y2, len, tx, ht, hl, hx, hr, hh, hi1, hi2⟩ := h
  have hfu := qFU_big
  unfold F_AT_keep F_Mo_keep
  rcases two_lit a with ⟨h1, h2⟩ | ⟨h1, h2⟩
  · rw [h1, Option.bind_some, if_pos rfl]
    rcases h2 with h2 | ⟨h2, h3⟩
    · rw [if_pos h2]
      exact ⟨_, _, _, rfl, rfl, hR⟩
    · rw [if_neg h2, if_neg h3]
      exact ⟨_, _, _, rfl, rfl, hR⟩
  · rw [h1, Option.bind_some, if_neg ne1]
    rcases h2 with rfl | rfl
    · rw [if_neg (by decide), if_pos (by decide), if_pos rfl, show F_No_become_22_15 m = some (bcm m 15 22) from rfl, Option.bind_some, show FL_Mo_keep_13 qFU n 0 0 = _ from keep_loop 0 (by omega) 65 0 qFU n (by omega) (by omega), Option.bind_some, show q_in 0 2 = true by decide, cond_true, bcm_fr _ (by omega), q_cw_row _ _ _ _ (by omega), hx.2.1.1, show n 60 0 = nI (xC x) from hx.2.2.1.1]
      refine ⟨_, _, _, rfl, rfl, l, x, hz, hs, x, y2, len, tx, ht.of (by rw [q_w_row _ _ _ (by omega), bcm_fr _ (by omega)]) (by rw [q_w_row _ _ _ (by omega), bcm_fr _ (by omega)]) (by repeat (first | rfl | rw [q_w_ne _ _ (by omega)] | rw [q_w_row _ _ _ (by omega)] | rw [q_cw_row _ _ _ _ (by omega)])) (by repeat (first | rfl | rw [q_w_ne _ _ (by omega)] | rw [q_w_row _ _ _ (by omega)] | rw [q_cw_row _ _ _ _ (by omega)])), ⟨hl.1, hl.2.1.of (fun k a b => by rw [q_w_row _ _ _ (by omega), bcm_fr _ (by omega)]), hl.2.2.of (by repeat (first | rfl | rw [q_w_ne _ _ (by omega)] | rw [q_w_row _ _ _ (by omega)] | rw [q_cw_row _ _ _ _ (by omega)])) (by repeat (first | rfl | rw [q_w_ne _ _ (by omega)] | rw [q_w_row _ _ _ (by omega)] | rw [q_cw_row _ _ _ _ (by omega)]))⟩, ⟨hx.1, hx.2.1.of (fun k a b => by rw [q_w_row _ _ _ (by omega), bcm_fr _ (by omega)]), hx.2.2.of (by repeat (first | rfl | rw [q_w_ne _ _ (by omega)] | rw [q_w_row _ _ _ (by omega)] | rw [q_cw_row _ _ _ _ (by omega)]))⟩, hr.of (fun k a b => by rw [q_w_row _ _ _ (by omega), bcm_fr _ (by omega)]), hh.of (fun k a b => by rw [q_w_row _ _ _ (by omega), bcm_fr _ (by omega)]) (by repeat (first | rfl | rw [q_w_ne _ _ (by omega)] | rw [q_w_row _ _ _ (by omega)] | rw [q_cw_row _ _ _ _ (by omega)])) (by repeat (first | rfl | rw [q_w_ne _ _ (by omega)] | rw [q_w_row _ _ _ (by omega)] | rw [q_cw_row _ _ _ _ (by omega)])), Or.inr ⟨q_w_same _ _ _ _, q_w_same _ _ _ _, hx.1, ?_, ?_⟩, hi2.cp (fun k a b => by rw [q_w_row _ _ _ (by omega), bcm_fr _ (by omega)]) ?_ ?_⟩
      · have b := bcm_N (k1 := 22) (by omega) hx.1.1 hx.2.1
        obtain ⟨c1, c2, c3, c4⟩ := b
        exact ⟨by rw [q_w_ne _ _ (by omega)]; exact c1, fun i hi => by rw [q_w_row _ _ _ (by omega), q_w_row _ _ _ (by omega), q_w_row _ _ _ (by omega), q_w_row _ _ _ (by omega)]; exact c2 i hi, fun i hi => by rw [q_w_row _ _ _ (by omega)]; exact c3 i hi, fun i hi => by rw [q_w_row _ _ _ (by omega)]; exact c4 i hi⟩
      · exact hx.2.2.cp hx.1.1 (fun k hk => by rw [q_w_row _ _ _ (by omega), q_cw_get, if_pos (by omega)]; congr 1; omega)
      · rw [q_w_ne _ _ (show (63 ≠ 63 ∨ 1 ≠ (0 : Int32).toNatClampNeg) from Or.inr (by decide)), q_cw_row _ _ _ _ (by omega)]
      · intro j hj
        rw [q_w_row _ _ _ (by omega), q_cw_get, if_neg (by omega)]
    · rw [if_neg (by decide), if_pos (by decide), if_neg (by decide), show F_No_become_29_15 m = some (bcm m 15 29) from rfl, Option.bind_some, show FL_Mo_keep_13 qFU n 1 0 = _ from keep_loop 1 (by omega) 65 0 qFU n (by omega) (by omega), Option.bind_some, show q_in 1 2 = true by decide, cond_true, bcm_fr _ (by omega), q_cw_row _ _ _ _ (by omega), hx.2.1.1, show n 60 0 = nI (xC x) from hx.2.2.1.1]
      refine ⟨_, _, _, rfl, rfl, l, x, hz, hs, y1, x, len, tx, ht.of (by rw [q_w_row _ _ _ (by omega), bcm_fr _ (by omega)]) (by rw [q_w_row _ _ _ (by omega), bcm_fr _ (by omega)]) (by repeat (first | rfl | rw [q_w_ne _ _ (by omega)] | rw [q_w_row _ _ _ (by omega)] | rw [q_cw_row _ _ _ _ (by omega)])) (by repeat (first | rfl | rw [q_w_ne _ _ (by omega)] | rw [q_w_row _ _ _ (by omega)] | rw [q_cw_row _ _ _ _ (by omega)])), ⟨hl.1, hl.2.1.of (fun k a b => by rw [q_w_row _ _ _ (by omega), bcm_fr _ (by omega)]), hl.2.2.of (by repeat (first | rfl | rw [q_w_ne _ _ (by omega)] | rw [q_w_row _ _ _ (by omega)] | rw [q_cw_row _ _ _ _ (by omega)])) (by repeat (first | rfl | rw [q_w_ne _ _ (by omega)] | rw [q_w_row _ _ _ (by omega)] | rw [q_cw_row _ _ _ _ (by omega)]))⟩, ⟨hx.1, hx.2.1.of (fun k a b => by rw [q_w_row _ _ _ (by omega), bcm_fr _ (by omega)]), hx.2.2.of (by repeat (first | rfl | rw [q_w_ne _ _ (by omega)] | rw [q_w_row _ _ _ (by omega)] | rw [q_cw_row _ _ _ _ (by omega)]))⟩, hr.of (fun k a b => by rw [q_w_row _ _ _ (by omega), bcm_fr _ (by omega)]), hh.of (fun k a b => by rw [q_w_row _ _ _ (by omega), bcm_fr _ (by omega)]) (by repeat (first | rfl | rw [q_w_ne _ _ (by omega)] | rw [q_w_row _ _ _ (by omega)] | rw [q_cw_row _ _ _ _ (by omega)])) (by repeat (first | rfl | rw [q_w_ne _ _ (by omega)] | rw [q_w_row _ _ _ (by omega)] | rw [q_cw_row _ _ _ _ (by omega)])), hi1.cp (fun k a b => by rw [q_w_row _ _ _ (by omega), bcm_fr _ (by omega)]) ?_ ?_, Or.inr ⟨q_w_same _ _ _ _, q_w_same _ _ _ _, hx.1, ?_, ?_⟩⟩
      · rw [q_w_ne _ _ (show (63 ≠ 63 ∨ 0 ≠ (1 : Int32).toNatClampNeg) from Or.inr (by decide)), q_cw_row _ _ _ _ (by omega)]
      · intro j hj
        rw [q_w_row _ _ _ (by omega), q_cw_get, if_neg (by omega)]
      · have b := bcm_N (k1 := 29) (by omega) hx.1.1 hx.2.1
        obtain ⟨c1, c2, c3, c4⟩ := b
        exact ⟨by rw [q_w_ne _ _ (by omega)]; exact c1, fun i hi => by rw [q_w_row _ _ _ (by omega), q_w_row _ _ _ (by omega), q_w_row _ _ _ (by omega), q_w_row _ _ _ (by omega)]; exact c2 i hi, fun i hi => by rw [q_w_row _ _ _ (by omega)]; exact c3 i hi, fun i hi => by rw [q_w_row _ _ _ (by omega)]; exact c4 i hi⟩
      · exact hx.2.2.cp hx.1.1 (fun k hk => by rw [q_w_row _ _ _ (by omega), q_cw_get, if_pos (by omega)]; congr 1; omega)
/-- an image is taken up -/
theorem back_img {l : aL} {x y : aN} {hz : Nat} {hs : Nat → aN} {y1 y2 : aN} {len : Nat} {tx : Nat → Nat} {m n : Nat → Nat → Int32} (h : rAll l x hz hs y1 y2 len tx m n) (k im : Nat) (hk : k = 22 ∨ k = 29) (hy : aNok l y) (hc : NCl k y m) (hn : NMo 62 (65 * im) y n) : ∃ r m7, F_Ru_follow_39_9_20 (q_w (bcm m k 15) 36 0 0) = some m7 ∧ m7 15 1 = r ∧ (q_cw n 62 60 (65 * im + 0) 0 65) 60 0 = r ∧ rR m7 (q_w (q_cw n 62 60 (65 * im + 0) 0 65) 56 7 0) := by
  obtain ⟨ht, hl, hx, hr, hh, hi1, hi2⟩ := h
  have b := bcm_N (k1 := 15) (by omega) hy.1 hc
  have b : NCl 15 y (q_w (bcm m k 15) 36 0 0) := b.of (by repeat (first | exact eqr.rf _ _ _ | refine eqr.w ?_ (by omega) | refine eqr.cw ?_ (by omega)))
  have lc : LCl l (q_w (bcm m k 15) 36 0 0) := hl.2.1.of (fun k a b => by rw [q_w_row _ _ _ (by omega), bcm_fr _ (by omega)])
  obtain ⟨m7, f1, f2, f3⟩ := follow_ok hl.1 hy lc b
  have fr : ∀ k', k' < 15 ∨ (21 < k' ∧ k' < 36) → m7 k' = m k' := fun k' hk' => by rw [f3 _ (by omega), q_w_row _ _ _ (by omega), bcm_fr _ (by omega)]
  refine ⟨nI (xC y), m7, f1, ?_, ?_, l, y, 0, fun _ => y, y1, y2, len, tx, ht.of (by rw [fr _ (by omega)]) (fr _ (by omega)) (by repeat (first | rfl | rw [q_w_ne _ _ (by omega)] | rw [q_w_row _ _ _ (by omega)] | rw [q_cw_row _ _ _ _ (by omega)])) (by repeat (first | rfl | rw [q_w_ne _ _ (by omega)] | rw [q_w_row _ _ _ (by omega)] | rw [q_cw_row _ _ _ _ (by omega)])), ⟨hl.1, hl.2.1.of (fun k a b => fr _ (by omega)), hl.2.2.of (by repeat (first | rfl | rw [q_w_ne _ _ (by omega)] | rw [q_w_row _ _ _ (by omega)] | rw [q_cw_row _ _ _ _ (by omega)])) (by repeat (first | rfl | rw [q_w_ne _ _ (by omega)] | rw [q_w_row _ _ _ (by omega)] | rw [q_cw_row _ _ _ _ (by omega)]))⟩, ⟨hy, b.of (fun k a b => f3 _ (by omega)), ?_⟩, f2, ⟨by omega, ?_, q_w_same _ _ _ _, ⟨rfl, fun _ _ => ⟨rfl, rfl, rfl, rfl⟩, fun _ _ => rfl⟩, fun j hj => absurd hj (by omega)⟩, hi1.of (fun k a b => fr _ (by omega)) (by repeat (first | rfl | rw [q_w_ne _ _ (by omega)] | rw [q_w_row _ _ _ (by omega)] | rw [q_cw_row _ _ _ _ (by omega)])) (by repeat (first | rfl | rw [q_w_ne _ _ (by omega)] | rw [q_w_row _ _ _ (by omega)] | rw [q_cw_row _ _ _ _ (by omega)])), hi2.of (fun k a b => fr _ (by omega)) (by repeat (first | rfl | rw [q_w_ne _ _ (by omega)] | rw [q_w_row _ _ _ (by omega)] | rw [q_cw_row _ _ _ _ (by omega)])) (by repeat (first | rfl | rw [q_w_ne _ _ (by omega)] | rw [q_w_row _ _ _ (by omega)] | rw [q_cw_row _ _ _ _ (by omega)]))⟩
  · rw [f3 _ (by omega)]
    exact b.1
  · rw [q_cw_get, if_pos (by omega)]
    exact hn.1.1
  · exact hn.cp hy.1 (fun j hj => by rw [q_w_row _ _ _ (by omega), q_cw_get, if_pos (by omega)]; congr 1; omega)
  · rw [f3 _ (by omega), q_w_same]
    rfl
theorem E_back {m n : Nat → Nat → Int32} (h : rR m n) (a : Int32) : ∃ r m' n', F_AT_back m a = some (r, m') ∧ F_Mo_back n a = some (r, n') ∧ rR m' n' := by
  have hR := h
  obtain ⟨l, x, hz, hs, y1, y2, len, tx, hA⟩ := h
  have hA0 := hA
  obtain ⟨ht, hl, hx, hr, hh, hi1, hi2⟩ := hA
  have hfu := qFU_big
  unfold F_AT_back F_Mo_back
  rcases two_lit a with ⟨h1, h2⟩ | ⟨h1, h2⟩
  · rw [h1, Option.bind_some, if_pos rfl]
    rcases h2 with h2 | ⟨h2, h3⟩
    · rw [if_pos h2]
      exact ⟨_, _, _, rfl, rfl, hR⟩
    · rw [if_neg h2, if_neg h3]
      exact ⟨_, _, _, rfl, rfl, hR⟩
  · rw [h1, Option.bind_some, if_neg ne1]
    rcases h2 with rfl | rfl
    · rw [if_neg (by decide), if_pos (by decide), if_pos rfl, show q_in 0 2 = true by decide, cond_true]
      rcases hi1 with ⟨k1, k2⟩ | ⟨k1, k2, k3, k4, k5⟩
      · rw [if_pos k1, if_pos (show n 63 (0 : Int32).toNatClampNeg = 0 from k2)]
        exact ⟨_, _, _, rfl, rfl, hR⟩
      · obtain ⟨r, m7, f1, f2, f3, f4⟩ := back_img hA0 22 0 (Or.inl rfl) k3 k4 k5
        rw [k1, show n 63 (0 : Int32).toNatClampNeg = 1 from k2, if_neg ne1, if_neg ne1, show F_No_become_15_22 m = some (bcm m 22 15) from rfl, Option.bind_some, f1, Option.bind_some, show FL_Mo_back_25 qFU n 0 0 = _ from back_loop 0 (by omega) 65 0 qFU n (by omega) (by omega), Option.bind_some, f2, f3]
        exact ⟨_, _, _, rfl, rfl, f4⟩
    · rw [if_neg (by decide), if_pos (by decide), if_neg (by decide), show q_in 1 2 = true by decide, cond_true]
      rcases hi2 with ⟨k1, k2⟩ | ⟨k1, k2, k3, k4, k5⟩
      · rw [if_pos k1, if_pos (show n 63 (1 : Int32).toNatClampNeg = 0 from k2)]
        exact ⟨_, _, _, rfl, rfl, hR⟩
      · obtain ⟨r, m7, f1, f2, f3, f4⟩ := back_img hA0 29 1 (Or.inr rfl) k3 k4 k5
        rw [k1, show n 63 (1 : Int32).toNatClampNeg = 1 from k2, if_neg ne1, if_neg ne1, show F_No_become_15_29 m = some (bcm m 29 15) from rfl, Option.bind_some, f1, Option.bind_some, show FL_Mo_back_25 qFU n 1 0 = _ from back_loop 1 (by omega) 65 0 qFU n (by omega) (by omega), Option.bind_some, f2, f3]
        exact ⟨_, _, _, rfl, rfl, f4⟩
