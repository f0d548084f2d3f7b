/-! furrows -/
def lw (l : aL) : aL := (l.1, lF l, lV l, lM l, lC l, fw (wi (lF l)) 8)
def xN0 : aN := (0, fun _ => 0, fun _ => 0, fun _ => 0, fun _ => 0, fun _ => 0, fun _ => none)
theorem lw_ok {l : aL} (h : dOk l) : aLok (lw l) := ⟨h.1, h.2.1, h.2.2.1, h.2.2.2.1, h.2.2.2.2.1, h.2.2.2.2.2.1, h.2.2.2.2.2.2.1, h.2.2.2.2.2.2.2.1, h.2.2.2.2.2.2.2.2.1, h.2.2.2.2.2.2.2.2.2.1, wOk_of (fwI_all (fwI_0 h.2.2.2.2.2.2.1 h.2.2.2.2.2.2.2.2.2.2.1 h.2.2.2.2.2.2.2.2.2.2.2) 8 (by omega)) h.1.2⟩
theorem x0_ok (l : aL) : aNok l xN0 := ⟨by decide, fun i hi => absurd hi (by show ¬ i < 0; omega), fun i _ => Nat.zero_le 20, fun i v _ hv => by
  have hv : (none : Option Nat) = some v := hv
  exact absurd hv (by simp)⟩
theorem tells_ok {l : aL} {it : Nat} {n : Nat → Nat → Int32} (h : dOk l) (hd : dMo l it n) : ∃ n', F_Mo_tells n = some n' ∧ LMo (lw l) n' ∧ NMo 60 0 xN0 n' ∧ n' 56 7 = 0 ∧ n' 63 0 = 0 ∧ n' 63 1 = 0 ∧ n' 58 6 = nI it ∧ (∀ j, j ≠ 7 → n' 56 j = n 56 j) ∧ ∀ k, k ≠ 56 → k ≠ 58 → k ≠ 60 → k ≠ 63 → k ≠ 64 → n' k = n k := by
  have hfu := qFU_big
  have h5 := h.2.1
  have h8 := h.2.2.1
  have hw := fwI_0 (P := lP l) h.2.2.2.2.2.2.1 h.2.2.2.2.2.2.2.2.2.2.1 h.2.2.2.2.2.2.2.2.2.2.2
  obtain ⟨n1, a1, a2, a3, a4⟩ := t2_loop 93 0 qFU n (by omega) (by omega)
  obtain ⟨n2, b1, b2, b3, b4⟩ := t28_loop 65 0 qFU n1 (by omega) (by omega)
  obtain ⟨n3, hn3⟩ : ∃ n3, n3 = q_w (q_w (q_w n2 56 7 0) 63 0 0) 63 1 0 := ⟨_, rfl⟩
  have r3 : ∀ k, k ≠ 56 → k ≠ 63 → n3 k = n2 k := fun k k1 k2 => by rw [hn3, q_w_row _ _ _ k2, q_w_row _ _ _ k2, q_w_row _ _ _ k1]
  have e58 : ∀ p, p < 93 → n3 58 p = n 59 p := fun p hp => by rw [r3 _ (by omega) (by omega), b2 _ (by omega), a3 p (by omega) hp]
  obtain ⟨n4, c1, c2, c3⟩ := t79_loop (F := lF l) h.2.2.2.2.2.2.1 64 0 qFU n3 (by omega) (by omega) (fun j hj => by rw [e58 _ (by omega)]; exact hd.2.2.2.2.2.2.2.1 j hj) (fun j hj => absurd hj (by omega))
  obtain ⟨n5, d1, d2, d3⟩ := t140_loop hw 8 0 qFU n4 (by omega) (by omega) c3
  have r5 : ∀ k, k ≠ 64 → n5 k = n3 k := fun k hk => by rw [d2 k hk, c2 k hk]
  have f58 : ∀ p, p < 93 → n5 58 p = n 59 p := fun p hp => by rw [r5 _ (by omega), e58 p hp]
  have f60 : ∀ p, p < 65 → n5 60 p = if p < 57 then 0 else Int32.ofInt (-9) := fun p hp => by rw [r5 _ (by omega), r3 _ (by omega) (by omega), b3 p (by omega) hp]
  refine ⟨n5, ?_, ⟨?_, ?_, ?_, ?_, ?_, ?_, ?_, ?_, ?_, ?_, ?_⟩, ⟨⟨?_, ?_, ?_⟩, ?_⟩, ?_, ?_, ?_, ?_, ?_, ?_⟩
  · unfold F_Mo_tells
    rw [show FL_Mo_tells_2 qFU n 0 = _ from a1, Option.bind_some, show FL_Mo_tells_28 qFU n1 0 = _ from b1, Option.bind_some, ← hn3, show FL_Mo_tells_79 qFU n3 0 = _ from c1, Option.bind_some, show FL_Mo_tells_140 qFU n4 0 = _ from d1]
    rfl
  · rw [f58 _ (by omega)]; exact hd.1
  · rw [f58 _ (by omega)]; exact hd.2.1
  · rw [f58 _ (by omega)]; exact hd.2.2.1
  · rw [f58 _ (by omega)]; exact hd.2.2.2.1
  · rw [f58 _ (by omega)]; exact hd.2.2.2.2.1
  · rw [f58 _ (by omega)]; exact hd.2.2.2.2.2.1
  · intro k hk; rw [f58 _ (by omega)]; exact hd.2.2.2.2.2.2.2.1 k hk
  · intro a b ha hb
    have ha : a < lP l := ha
    have hb : b < lP l := hb
    have P8 := h.1.2
    exact d3 (8 * a + b) (by omega)
  · intro k hk; rw [f58 _ (by omega)]; exact hd.2.2.2.2.2.2.2.2.1 k hk
  · intro k hk
    have hk : k < lH l := hk
    rw [f58 _ (by omega)]; exact hd.2.2.2.2.2.2.2.2.2.1 k hk
  · intro k hk
    have hk : k < lK l := hk
    rw [f58 _ (by omega)]; exact hd.2.2.2.2.2.2.2.2.2.2 k hk
  · rw [f60 _ (by omega), if_pos (by omega)]; rfl
  · exact fun i hi => absurd hi (by show ¬ i < 0; omega)
  · intro i hi; rw [f60 _ (by omega), if_pos (by omega)]; rfl
  · intro i hi; rw [f60 _ (by omega), if_neg (by omega)]; rfl
  · rw [r5 _ (by omega), hn3, q_w_row _ _ _ (by omega), q_w_row _ _ _ (by omega), q_w_same]
  · rw [r5 _ (by omega), hn3, q_w_ne _ _ (by omega), q_w_same]
  · rw [r5 _ (by omega), hn3, q_w_same]
  · rw [f58 _ (by omega)]; exact hd.2.2.2.2.2.2.1
  · intro j hj
    rw [r5 _ (by omega), hn3, q_w_row _ _ _ (by omega), q_w_row _ _ _ (by omega), q_w_ne _ _ (by omega), b2 _ (by omega), a2 _ (by omega)]
  · intro k k1 k2 k3 k4 k5
    rw [r5 _ k5, r3 _ k1 k4, b2 _ k3, a2 _ k2]
theorem become_ok {l : aL} {m : Nat → Nat → Int32} (h : dOk l) (hd : dCl l m) : ∃ m', F_La_become_9_3 m = some m' ∧ LCl (lw l) m' ∧ ∀ k, k < 9 ∨ 14 < k → m' k = m k := by
  have h5 := h.2.1
  have h8 := h.2.2.1
  have P8 := h.1.2
  have hw := fwI_0 (P := lP l) h.2.2.2.2.2.2.1 h.2.2.2.2.2.2.2.2.2.2.1 h.2.2.2.2.2.2.2.2.2.2.2
  obtain ⟨m1, hm1⟩ : ∃ m1, m1 = q_w (q_w (q_w (q_w (q_w (q_w m 9 0 (m 3 0)) 9 1 (m 3 1)) 9 2 (m 3 2)) 9 3 (m 3 3)) 9 4 (m 3 4)) 9 5 (m 3 5) := ⟨_, rfl⟩
  have r1 : ∀ k, k ≠ 9 → m1 k = m k := fun k hk => by rw [hm1, q_w_row _ _ _ hk, q_w_row _ _ _ hk, q_w_row _ _ _ hk, q_w_row _ _ _ hk, q_w_row _ _ _ hk, q_w_row _ _ _ hk]
  have c0 : m1 9 0 = m 3 0 := by rw [hm1, q_w_ne _ _ (by omega), q_w_ne _ _ (by omega), q_w_ne _ _ (by omega), q_w_ne _ _ (by omega), q_w_ne _ _ (by omega), q_w_same]
  have c1 : m1 9 1 = m 3 1 := by rw [hm1, q_w_ne _ _ (by omega), q_w_ne _ _ (by omega), q_w_ne _ _ (by omega), q_w_ne _ _ (by omega), q_w_same]
  have c2 : m1 9 2 = m 3 2 := by rw [hm1, q_w_ne _ _ (by omega), q_w_ne _ _ (by omega), q_w_ne _ _ (by omega), q_w_same]
  have c3 : m1 9 3 = m 3 3 := by rw [hm1, q_w_ne _ _ (by omega), q_w_ne _ _ (by omega), q_w_same]
  have c4 : m1 9 4 = m 3 4 := by rw [hm1, q_w_ne _ _ (by omega), q_w_same]
  have c5 : m1 9 5 = m 3 5 := by rw [hm1, q_w_same]
  obtain ⟨m2, hm2⟩ : ∃ m2, m2 = q_cw (q_cw (q_cw (q_cw m1 4 10 0 0 64) 6 12 0 0 8) 7 13 0 0 5) 8 14 0 0 8 := ⟨_, rfl⟩
  have r2 : ∀ k, k ≠ 10 → k ≠ 12 → k ≠ 13 → k ≠ 14 → m2 k = m1 k := fun k k1 k2 k3 k4 => by rw [hm2, q_cw_row _ _ _ _ k4, q_cw_row _ _ _ _ k3, q_cw_row _ _ _ _ k2, q_cw_row _ _ _ _ k1]
  have e10 : ∀ j, j < 64 → m2 10 j = m 4 j := fun j hj => by
    rw [hm2, q_cw_row _ _ _ _ (by omega), q_cw_row _ _ _ _ (by omega), q_cw_row _ _ _ _ (by omega), q_cw_get, if_pos (by omega), r1 _ (by omega), Nat.zero_add, Nat.sub_zero]
  have e12 : ∀ j, j < 8 → m2 12 j = m 6 j := fun j hj => by
    rw [hm2, q_cw_row _ _ _ _ (by omega), q_cw_row _ _ _ _ (by omega), q_cw_get, if_pos (by omega), q_cw_row _ _ _ _ (by omega), r1 _ (by omega), Nat.zero_add, Nat.sub_zero]
  have e13 : ∀ j, j < 5 → m2 13 j = m 7 j := fun j hj => by
    rw [hm2, q_cw_row _ _ _ _ (by omega), q_cw_get, if_pos (by omega), q_cw_row _ _ _ _ (by omega), q_cw_row _ _ _ _ (by omega), r1 _ (by omega), Nat.zero_add, Nat.sub_zero]
  have e14 : ∀ j, j < 8 → m2 14 j = m 8 j := fun j hj => by
    rw [hm2, q_cw_get, if_pos (by omega), q_cw_row _ _ _ _ (by omega), q_cw_row _ _ _ _ (by omega), q_cw_row _ _ _ _ (by omega), r1 _ (by omega), Nat.zero_add, Nat.sub_zero]
  have r9 : m2 9 = m1 9 := r2 9 (by omega) (by omega) (by omega) (by omega)
  obtain ⟨m3, a1, a2, a3⟩ := measure_ok (s := lS l) P8 h.2.2.2.1.1 h.2.2.2.1.2 h.2.2.2.2.2.2.1 hw (m := m2) (by rw [r9, c0]; exact hd.1) (by rw [r9, c3]; exact hd.2.2.2.1) (fun k hk => by rw [e10 k hk]; exact hd.2.2.2.2.2.2.1 k hk)
  refine ⟨m3, ?_, ⟨?_, ?_, ?_, ?_, ?_, ?_, ?_, ?_, ?_, ?_, ?_⟩, ?_⟩
  · unfold F_La_become_9_3
    rw [← hm1, ← hm2, a1]
    rfl
  · rw [a2 _ (by omega), r9, c0]; exact hd.1
  · rw [a2 _ (by omega), r9, c1]; exact hd.2.1
  · rw [a2 _ (by omega), r9, c2]; exact hd.2.2.1
  · rw [a2 _ (by omega), r9, c3]; exact hd.2.2.2.1
  · rw [a2 _ (by omega), r9, c4]; exact hd.2.2.2.2.1
  · rw [a2 _ (by omega), r9, c5]; exact hd.2.2.2.2.2.1
  · intro k hk; rw [a2 _ (by omega), e10 k hk]; exact hd.2.2.2.2.2.2.1 k hk
  · exact a3
  · intro k hk; rw [a2 _ (by omega), e12 k hk]; exact hd.2.2.2.2.2.2.2.1 k hk
  · intro k hk
    have hk : k < lH l := hk
    rw [a2 _ (by omega), e13 k (by omega)]; exact hd.2.2.2.2.2.2.2.2.1 k hk
  · intro k hk
    have hk : k < lK l := hk
    rw [a2 _ (by omega), e14 k (by omega)]; exact hd.2.2.2.2.2.2.2.2.2 k hk
  · intro k hk
    rw [a2 _ (by omega), r2 k (by omega) (by omega) (by omega) (by omega), r1 k (by omega)]
theorem wipe_ok (m : Nat → Nat → Int32) : ∃ m', F_No_wipe_15 m = some m' ∧ NCl 15 xN0 m' ∧ ∀ k, k ≠ 15 → k ≠ 20 → k ≠ 21 → m' k = m k := by
  obtain ⟨m1, a1, a2, a3⟩ := fill20_ok 0 (q_w m 15 1 0)
  obtain ⟨m2, b1, b2, b3⟩ := fill21_ok (Int32.ofInt (-9)) m1
  refine ⟨m2, ?_, ⟨?_, ?_, ?_, ?_⟩, fun k k1 k2 k3 => by rw [b2 k k3, a2 k k2, q_w_row _ _ _ k1]⟩
  · unfold F_No_wipe_15
    rw [a1, Option.bind_some, b1]
    rfl
  · rw [b2 _ (by omega), a2 _ (by omega), q_w_same]
    rfl
  · exact fun i hi => absurd hi (by show ¬ i < 0; omega)
  · intro i hi
    show m2 20 i = _
    rw [b2 _ (by omega), a3 i hi]
    rfl
  · intro i hi
    exact b3 i hi
theorem rR_frd {m m' n n' : Nat → Nat → Int32} (h : rR m n) (f1 : frCe m m') (f2 : frMd n n') : rR m' n' := by
  have e : ∀ k, 9 ≤ k → k < 70 → m' k = m k := fun k hk h70 => f1.1 k (by omega) (by omega) (by omega) (by omega) (by omega) (by omega) h70
  have f : ∀ k, k ≠ 56 → k ≠ 59 → n' k = n k := f2.1
  have g : ∀ j, j < 11 → n' 56 j = n 56 j := fun j hj => f2.2 j (by omega)
  obtain ⟨l, x, hz, hs, y1, y2, len, tx, ht, hl, hx, hr, hh, hi1, hi2⟩ := h
  exact ⟨l, x, hz, hs, y1, y2, len, tx, ht.fre f1 f2, ⟨hl.1, hl.2.1.of (fun k a b => e k (by omega) (by omega)), hl.2.2.of (f _ (by omega) (by omega)) (f _ (by omega) (by omega))⟩, ⟨hx.1, hx.2.1.of (fun k a b => e k (by omega) (by omega)), hx.2.2.of (f _ (by omega) (by omega))⟩, hr.of (fun k a b => e k (by omega) (by omega)), hh.of (fun k a b => e k (by omega) (by omega)) (g _ (by omega)) (f _ (by omega) (by omega)), hi1.of (fun k a b => e k (by omega) (by omega)) (by rw [f _ (by omega) (by omega)]) (f _ (by omega) (by omega)), hi2.of (fun k a b => e k (by omega) (by omega)) (by rw [f _ (by omega) (by omega)]) (f _ (by omega) (by omega))⟩
theorem neg10 : ∀ p, p < 201 → ¬ (0 : Int32) ≤ Int32.ofInt (-10) - nI p := by decide +kernel
/-- what both hold when a text has been told -/
theorem fresh_ok {l : aL} {tx : Nat → Nat} {m n : Nat → Nat → Int32} (hl : aLok l ∧ LCl l m ∧ LMo l n) (hc : NCl 15 xN0 m) (hn : NMo 60 0 xN0 n) (hr : rRun l xN0 m) (h1 : m 1 1 = 0) (h2 : n 56 2 = 0) (h3 : m 36 0 = 0) (h4 : n 56 7 = 0) (h5 : m 22 0 = 0) (h6 : n 63 0 = 0) (h7 : m 29 0 = 0) (h8 : n 63 1 = 0) : rR m n :=
  ⟨l, xN0, 0, fun _ => xN0, xN0, xN0, 0, tx, ⟨h1, h2, by omega, fun i hi => absurd hi (by omega)⟩, hl, ⟨x0_ok l, hc, hn⟩, hr, ⟨by omega, h3, h4, ⟨rfl, fun i hi => absurd hi (by show ¬ i < 0; omega), fun _ _ => rfl⟩, fun j hj => absurd hj (by omega)⟩, Or.inl ⟨h5, h6⟩, Or.inl ⟨h7, h8⟩⟩
theorem E_furrows {m n : Nat → Nat → Int32} (h : rR m n) : ∃ r m' n', F_AT_furrows m = some (r, m') ∧ F_Mo_furrows n = some (r, n') ∧ rR m' n' := by
  have hR := h
  obtain ⟨l, x, hz, hs, y1, y2, len, tx, ht, hl, hx, hr, hh, hi1, hi2⟩ := h
  obtain ⟨m2, n2, f1, f2, o⟩ := reads_ok ht
  unfold F_AT_furrows F_Mo_furrows
  rcases o with ⟨l', it', i200, o1, o2, o3⟩ | ⟨p, p1, o1, o2, o3⟩
  · rw [o1, o2, Option.bind_some, Option.bind_some]
    dsimp only
    rw [if_pos (nI_pos' (by omega)), if_neg ne1]
    obtain ⟨n5, t1, t2, t3, t4, t5, t6, t7, t8, t9⟩ := tells_ok o3.1 o3.2.2.1
    obtain ⟨m5, b1, b2, b3⟩ := become_ok (m := q_w m2 1 1 0) o3.1 (o3.2.1.fr (q_w_row _ _ _ (by omega)) (q_w_row _ _ _ (by omega)) (q_w_row _ _ _ (by omega)) (q_w_row _ _ _ (by omega)) (q_w_row _ _ _ (by omega)))
    obtain ⟨m7, c1, c2, c3⟩ := wipe_ok m5
    obtain ⟨m8, hm8⟩ : ∃ m8, m8 = q_w (q_w (q_w m7 22 0 0) 29 0 0) 36 0 0 := ⟨_, rfl⟩
    have r8 : ∀ k, k ≠ 22 → k ≠ 29 → k ≠ 36 → m8 k = m7 k := fun k k1 k2 k3 => by rw [hm8, q_w_row _ _ _ k3, q_w_row _ _ _ k2, q_w_row _ _ _ k1]
    have l8 : LCl (lw l') m8 := b2.of (fun k a b => by rw [r8 k (by omega) (by omega) (by omega), c3 k (by omega) (by omega) (by omega)])
    have n8 : NCl 15 xN0 m8 := c2.of (fun k a b => by rw [r8 k (by omega) (by omega) (by omega)])
    have ok := lw_ok o3.1
    obtain ⟨m9, d1, d2, d3⟩ := follow_ok ok (x0_ok _) l8 n8
    rw [b1, Option.bind_some, c1, Option.bind_some, ← hm8, d1, t1, Option.bind_some, Option.bind_some, t7]
    refine ⟨nI it', m9, q_w n5 56 2 0, rfl, rfl, fresh_ok (l := lw l') (tx := tx) ⟨ok, l8.of (fun k a b => d3 k (by omega)), t2.of (q_w_row _ _ _ (by omega)) (q_w_row _ _ _ (by omega))⟩ (n8.of (fun k a b => d3 k (by omega))) (t3.of (q_w_row _ _ _ (by omega))) d2 ?_ (q_w_same _ _ _ _) ?_ ?_ ?_ ?_ ?_ ?_⟩
    · rw [d3 _ (by omega), r8 _ (by omega) (by omega) (by omega), c3 _ (by omega) (by omega) (by omega), b3 _ (by omega), q_w_same]
    · rw [d3 _ (by omega), hm8, q_w_same]
    · rw [q_w_ne _ _ (by omega)]
      exact t4
    · rw [d3 _ (by omega), hm8, q_w_row _ _ _ (by omega), q_w_row _ _ _ (by omega), q_w_same]
    · rw [q_w_row _ _ _ (by omega)]
      exact t5
    · rw [d3 _ (by omega), hm8, q_w_row _ _ _ (by omega), q_w_same]
    · rw [q_w_row _ _ _ (by omega)]
      exact t6
  · rw [o1, o2, Option.bind_some, Option.bind_some]
    dsimp only
    rw [if_neg (neg10 p (by omega)), if_pos rfl, o3]
    exact ⟨_, m2, n2, rfl, rfl, rR_frd hR f1 f2⟩
