/-! the text: furrows and sights -/
theorem place_ok {tx : Nat → Nat} {len b e : Nat} {m n : Nat → Nat → Int32} (h : tRl len tx m n b e) {P : Nat} (h2 : 2 ≤ P) (h8 : P ≤ 8) (hm : m 3 0 = nI P) : (∃ v, v < P ∧ m 70 (m 1 5).toNatClampNeg = nI (258 + v) ∧ b < e ∧ n 56 12 = 2 ∧ n 56 14 = nI v ∧ F_Mo_isNumber n 0 (nI P - 1) = some 1 ∧ ∀ m2, gOn m = some m2 → F_Re_takePlace_1 m = some (nI v, m2)) ∨ (F_Mo_isNumber n 0 (nI P - 1) = some 0 ∧ F_Re_takePlace_1 m = some (Int32.ofInt (-9), m)) := by
  have ph : nI P - 1 = nI (P - 1) := by rw [i_1, pk_sub (by omega)]
  unfold F_Re_takePlace_1
  rw [hm, ph]
  rcases num_ok h (lo := 0) (hi := P - 1) (by omega) (by omega) with ⟨v, v1, v2, v3, v4, v5, v6, v7, v8⟩ | ⟨v1, v2⟩
  · refine Or.inl ⟨v, by omega, v3, v4, v5, v6, v7, fun m2 hm2 => ?_⟩
    rw [show F_Re_takeNumber_1 m 0 (nI (P - 1)) = _ from v8 m2 hm2]
    rfl
  · refine Or.inr ⟨v1, ?_⟩
    rw [show F_Re_takeNumber_1 m 0 (nI (P - 1)) = _ from v2]
    rfl
theorem two_ok {len : Nat} {tx : Nat → Nat} {m1 n0 n1 : Nat → Nat → Int32} {b1 e1 P : Nat} (ht : rText len tx m1 n1) (hr : tRl len tx m1 n1 b1 e1) (h2 : 2 ≤ P) (h8 : P ≤ 8) (hm : m1 3 0 = nI P) (hn59 : n1 59 0 = nI P) (hn : F_Mo_token n0 = some n1) :
    (∃ a c m2 n2 b2 e2, a < P ∧ c < P ∧ a ≠ c ∧ F_Re_takePlace_1 m1 = some (nI a, m2) ∧ (∀ m3, gOn m2 = some m3 → F_Re_takePlaceUnlike_1 m2 (nI a) = some (nI c, m3)) ∧ F_Mo_readsTwo n0 = some (nI (8 * a + c), n2) ∧ frC m1 m2 ∧ frM n1 n2 ∧ (e1 ≤ b2 ∧ b2 < e2) ∧ tRl len tx m2 n2 b2 e2)
    ∨ (∃ m2 n2 b2 e2, (F_Re_takePlace_1 m1 = some (Int32.ofInt (-9), m2) ∨ ∃ a m', a < 8 ∧ F_Re_takePlace_1 m1 = some (nI a, m') ∧ F_Re_takePlaceUnlike_1 m' (nI a) = some (Int32.ofInt (-9), m2)) ∧ F_Mo_readsTwo n0 = some (Int32.ofInt (-9), n2) ∧ frC m1 m2 ∧ frM n1 n2 ∧ tRl len tx m2 n2 b2 e2) := by
  unfold F_Mo_readsTwo
  rw [hn, Option.bind_some, hn59]
  rcases place_ok hr h2 h8 hm with ⟨a, p1, p2, p3, p4, p5, p6, p7⟩ | ⟨p1, p2⟩
  · obtain ⟨m2, n2, b2, e2, a1, a2, a3, a4, a5, a6⟩ := next_ok (nw := n1) ht hr p3 rfl rfl
    have hm2 : m2 3 0 = nI P := by rw [a3.1 _ (by omega)]; exact hm
    have hn2 : n2 59 0 = nI P := by rw [a4.1 _ (by omega)]; exact hn59
    rw [p6, Option.bind_some, if_neg ne1, a2, Option.bind_some, hn2]
    rcases place_ok a6 h2 h8 hm2 with ⟨c, q1, q2, q3, q4, q5, q6, q7⟩ | ⟨q1, q2⟩
    · rw [q6, Option.bind_some, if_neg ne1, q5, p5]
      by_cases z : c = a
      · right
        rw [if_pos (by rw [z])]
        refine ⟨m2, n2, b2, e2, Or.inr ⟨a, m2, by omega, p7 m2 a1, ?_⟩, rfl, a3, a4, a6⟩
        unfold F_Re_takePlaceUnlike_1
        rw [a6.1.q, cond_true, if_pos (by rw [q2, z, i_258, nI_add])]
      · left
        have zz : ¬ nI c = nI a := fun y => z ((nI_eq (by omega) (by omega)).mp y)
        rw [if_neg zz, i_8, pk_mul, nI_add]
        refine ⟨a, c, m2, n2, b2, e2, p1, q1, fun y => z y.symm, p7 m2 a1, fun m3 hm3 => ?_, rfl, a3, a4, ⟨a5, q3⟩, a6⟩
        unfold F_Re_takePlaceUnlike_1
        rw [a6.1.q, cond_true, if_neg (by
          rw [q2, i_258, nI_add]
          exact fun y => z (by have := (nI_eq (a := 258 + c) (b := 258 + a) (by omega) (by omega)).mp y; omega))]
        exact q7 m3 hm3
    · right
      rw [q1]
      refine ⟨m2, n2, b2, e2, Or.inr ⟨a, m2, by omega, p7 m2 a1, ?_⟩, rfl, a3, a4, a6⟩
      unfold F_Re_takePlaceUnlike_1
      rw [a6.1.q, cond_true]
      split
      · rfl
      · exact q2
  · right
    rw [p1]
    exact ⟨m1, n1, b1, e1, Or.inl p2, rfl, frC.rf _, frM.rf _, hr⟩
def sFu (l : aL) (a c v : Nat) : aL := (l.1, up1 (up1 (lF l) (8 * a + c) v) (8 * c + a) v, lV l, lM l, lC l, lW l)
def sVi (l : aL) (a c : Nat) : aL := (l.1, lF l, up1 (up1 (lV l) a (lV l a ||| 2 ^ c)) c (lV l c ||| 2 ^ a), lM l, lC l, lW l)
theorem fu_get (F : Nat → Nat) (a c v k : Nat) : up1 (up1 F (8 * a + c) v) (8 * c + a) v k = if k = 8 * c + a ∨ k = 8 * a + c then v else F k := by
  unfold up1
  by_cases z : k = 8 * c + a
  · rw [if_pos z, if_pos (Or.inl z)]
  · rw [if_neg z]
    by_cases y : k = 8 * a + c
    · rw [if_pos y, if_pos (Or.inr y)]
    · rw [if_neg y, if_neg (fun x => x.elim z y)]
theorem dA_F {l : aL} {it a c v : Nat} {m n : Nat → Nat → Int32} (h : dA l it m n) (ha : a < lP l) (hc : c < lP l) (hac : a ≠ c) (h2 : v ≤ 9) : dA (sFu l a c v) it (q_w (q_w m 4 (8 * a + c) (nI v)) 4 (8 * c + a) (nI v)) (q_w (q_w n 59 (21 + (8 * a + c)) (nI v)) 59 (21 + (8 * c + a)) (nI v)) := by
  have o := h.1
  have cl := h.2.1
  have d := h.2.2.1
  have P8 := o.1.2
  refine ⟨⟨o.1, o.2.1, o.2.2.1, o.2.2.2.1, o.2.2.2.2.1, o.2.2.2.2.2.1, fun k hk => ?_, o.2.2.2.2.2.2.2.1, o.2.2.2.2.2.2.2.2.1, o.2.2.2.2.2.2.2.2.2.1, fun x y hx hy => ?_, fun x y hx hy hp => ?_⟩, ⟨?_, ?_, ?_, ?_, ?_, ?_, ?_, ?_, ?_, ?_⟩, ⟨?_, ?_, ?_, ?_, ?_, ?_, ?_, ?_, ?_, ?_, ?_⟩, h.2.2.2.fr (by rw [q_w_ne _ _ (by omega), q_w_ne _ _ (by omega)]) (by rw [q_w_ne _ _ (by omega), q_w_ne _ _ (by omega)])⟩
  · show up1 (up1 (lF l) (8 * a + c) v) (8 * c + a) v k ≤ 9
    rw [fu_get]
    split
    · exact h2
    · exact o.2.2.2.2.2.2.1 k hk
  · show up1 (up1 (lF l) (8 * a + c) v) (8 * c + a) v (8 * x + y) = up1 (up1 (lF l) (8 * a + c) v) (8 * c + a) v (8 * y + x)
    rw [fu_get, fu_get]
    by_cases z : 8 * x + y = 8 * c + a ∨ 8 * x + y = 8 * a + c
    · rw [if_pos z, if_pos (by omega)]
    · rw [if_neg z, if_neg (by omega)]
      exact o.2.2.2.2.2.2.2.2.2.2.1 x y hx hy
  · have hp : lP l ≤ x := hp
    show up1 (up1 (lF l) (8 * a + c) v) (8 * c + a) v (8 * x + y) = 0
    rw [fu_get, if_neg (by omega)]
    exact o.2.2.2.2.2.2.2.2.2.2.2 x y hx hy hp
  · rw [q_w_ne _ _ (by omega), q_w_ne _ _ (by omega)]; exact cl.1
  · rw [q_w_ne _ _ (by omega), q_w_ne _ _ (by omega)]; exact cl.2.1
  · rw [q_w_ne _ _ (by omega), q_w_ne _ _ (by omega)]; exact cl.2.2.1
  · rw [q_w_ne _ _ (by omega), q_w_ne _ _ (by omega)]; exact cl.2.2.2.1
  · rw [q_w_ne _ _ (by omega), q_w_ne _ _ (by omega)]; exact cl.2.2.2.2.1
  · rw [q_w_ne _ _ (by omega), q_w_ne _ _ (by omega)]; exact cl.2.2.2.2.2.1
  · intro k hk
    show q_w (q_w m 4 (8 * a + c) (nI v)) 4 (8 * c + a) (nI v) 4 k = nI (up1 (up1 (lF l) (8 * a + c) v) (8 * c + a) v k)
    rw [fu_get]
    by_cases z : k = 8 * c + a
    · rw [if_pos (Or.inl z), z, q_w_same]
    · rw [q_w_ne _ _ (by omega)]
      by_cases y : k = 8 * a + c
      · rw [if_pos (Or.inr y), y, q_w_same]
      · rw [if_neg (by omega), q_w_ne _ _ (by omega)]
        exact cl.2.2.2.2.2.2.1 k hk
  · intro k hk; rw [q_w_ne _ _ (by omega), q_w_ne _ _ (by omega)]; exact cl.2.2.2.2.2.2.2.1 k hk
  · intro k hk; rw [q_w_ne _ _ (by omega), q_w_ne _ _ (by omega)]; exact cl.2.2.2.2.2.2.2.2.1 k hk
  · intro k hk; rw [q_w_ne _ _ (by omega), q_w_ne _ _ (by omega)]; exact cl.2.2.2.2.2.2.2.2.2 k hk
  · rw [q_w_ne _ _ (by omega), q_w_ne _ _ (by omega)]; exact d.1
  · rw [q_w_ne _ _ (by omega), q_w_ne _ _ (by omega)]; exact d.2.1
  · rw [q_w_ne _ _ (by omega), q_w_ne _ _ (by omega)]; exact d.2.2.1
  · rw [q_w_ne _ _ (by omega), q_w_ne _ _ (by omega)]; exact d.2.2.2.1
  · rw [q_w_ne _ _ (by omega), q_w_ne _ _ (by omega)]; exact d.2.2.2.2.1
  · rw [q_w_ne _ _ (by omega), q_w_ne _ _ (by omega)]; exact d.2.2.2.2.2.1
  · rw [q_w_ne _ _ (by omega), q_w_ne _ _ (by omega)]; exact d.2.2.2.2.2.2.1
  · intro k hk
    show q_w (q_w n 59 (21 + (8 * a + c)) (nI v)) 59 (21 + (8 * c + a)) (nI v) 59 (21 + k) = nI (up1 (up1 (lF l) (8 * a + c) v) (8 * c + a) v k)
    rw [fu_get]
    by_cases z : k = 8 * c + a
    · rw [if_pos (Or.inl z), z, q_w_same]
    · rw [q_w_ne _ _ (by omega)]
      by_cases y : k = 8 * a + c
      · rw [if_pos (Or.inr y), y, q_w_same]
      · rw [if_neg (by omega), q_w_ne _ _ (by omega)]
        exact d.2.2.2.2.2.2.2.1 k hk
  · intro k hk; rw [q_w_ne _ _ (by omega), q_w_ne _ _ (by omega)]; exact d.2.2.2.2.2.2.2.2.1 k hk
  · intro k hk
    have hk : k < lH l := hk
    have := o.2.1
    rw [q_w_ne _ _ (by omega), q_w_ne _ _ (by omega)]; exact d.2.2.2.2.2.2.2.2.2.1 k hk
  · intro k hk
    have hk : k < lK l := hk
    have := o.2.2.1
    rw [q_w_ne _ _ (by omega), q_w_ne _ _ (by omega)]; exact d.2.2.2.2.2.2.2.2.2.2 k hk
theorem vi_get (V : Nat → Nat) (a c x y k : Nat) (hac : a ≠ c) : up1 (up1 V a x) c y k = if k = c then y else if k = a then x else V k := by
  unfold up1
  rfl
theorem dA_V {l : aL} {it a c : Nat} {m n : Nat → Nat → Int32} (h : dA l it m n) (ha : a < lP l) (hc : c < lP l) (hac : a ≠ c) : dA (sVi l a c) it (q_w (q_w m 6 a (nI (lV l a ||| 2 ^ c))) 6 c (nI (lV l c ||| 2 ^ a))) (q_w (q_w n 59 (85 + a) (nI (lV l a ||| 2 ^ c))) 59 (85 + c) (nI (lV l c ||| 2 ^ a))) := by
  have o := h.1
  have cl := h.2.1
  have d := h.2.2.1
  have P8 := o.1.2
  have pa : 2 ^ a < 2 ^ 8 := Nat.pow_lt_pow_right (by omega) (by omega)
  have pc : 2 ^ c < 2 ^ 8 := Nat.pow_lt_pow_right (by omega) (by omega)
  refine ⟨⟨o.1, o.2.1, o.2.2.1, o.2.2.2.1, o.2.2.2.2.1, o.2.2.2.2.2.1, o.2.2.2.2.2.2.1, fun k hk => ?_, o.2.2.2.2.2.2.2.2.1, o.2.2.2.2.2.2.2.2.2.1, o.2.2.2.2.2.2.2.2.2.2.1, o.2.2.2.2.2.2.2.2.2.2.2⟩, ⟨?_, ?_, ?_, ?_, ?_, ?_, ?_, ?_, ?_, ?_⟩, ⟨?_, ?_, ?_, ?_, ?_, ?_, ?_, ?_, ?_, ?_, ?_⟩, h.2.2.2.fr (by rw [q_w_ne _ _ (by omega), q_w_ne _ _ (by omega)]) (by rw [q_w_ne _ _ (by omega), q_w_ne _ _ (by omega)])⟩
  · show up1 (up1 (lV l) a (lV l a ||| 2 ^ c)) c (lV l c ||| 2 ^ a) k < 256
    rw [vi_get _ _ _ _ _ _ hac]
    split
    · exact Nat.or_lt_two_pow (n := 8) (o.2.2.2.2.2.2.2.1 c (by omega)) pa
    · split
      · exact Nat.or_lt_two_pow (n := 8) (o.2.2.2.2.2.2.2.1 a (by omega)) pc
      · exact o.2.2.2.2.2.2.2.1 k hk
  · rw [q_w_ne _ _ (by omega), q_w_ne _ _ (by omega)]; exact cl.1
  · rw [q_w_ne _ _ (by omega), q_w_ne _ _ (by omega)]; exact cl.2.1
  · rw [q_w_ne _ _ (by omega), q_w_ne _ _ (by omega)]; exact cl.2.2.1
  · rw [q_w_ne _ _ (by omega), q_w_ne _ _ (by omega)]; exact cl.2.2.2.1
  · rw [q_w_ne _ _ (by omega), q_w_ne _ _ (by omega)]; exact cl.2.2.2.2.1
  · rw [q_w_ne _ _ (by omega), q_w_ne _ _ (by omega)]; exact cl.2.2.2.2.2.1
  · intro k hk; rw [q_w_ne _ _ (by omega), q_w_ne _ _ (by omega)]; exact cl.2.2.2.2.2.2.1 k hk
  · intro k hk
    show q_w (q_w m 6 a (nI (lV l a ||| 2 ^ c))) 6 c (nI (lV l c ||| 2 ^ a)) 6 k = nI (up1 (up1 (lV l) a (lV l a ||| 2 ^ c)) c (lV l c ||| 2 ^ a) k)
    rw [vi_get _ _ _ _ _ _ hac]
    by_cases z : k = c
    · rw [if_pos z, z, q_w_same]
    · rw [if_neg z, q_w_ne _ _ (by omega)]
      by_cases y : k = a
      · rw [if_pos y, y, q_w_same]
      · rw [if_neg y, q_w_ne _ _ (by omega)]
        exact cl.2.2.2.2.2.2.2.1 k hk
  · intro k hk; rw [q_w_ne _ _ (by omega), q_w_ne _ _ (by omega)]; exact cl.2.2.2.2.2.2.2.2.1 k hk
  · intro k hk; rw [q_w_ne _ _ (by omega), q_w_ne _ _ (by omega)]; exact cl.2.2.2.2.2.2.2.2.2 k hk
  · rw [q_w_ne _ _ (by omega), q_w_ne _ _ (by omega)]; exact d.1
  · rw [q_w_ne _ _ (by omega), q_w_ne _ _ (by omega)]; exact d.2.1
  · rw [q_w_ne _ _ (by omega), q_w_ne _ _ (by omega)]; exact d.2.2.1
  · rw [q_w_ne _ _ (by omega), q_w_ne _ _ (by omega)]; exact d.2.2.2.1
  · rw [q_w_ne _ _ (by omega), q_w_ne _ _ (by omega)]; exact d.2.2.2.2.1
  · rw [q_w_ne _ _ (by omega), q_w_ne _ _ (by omega)]; exact d.2.2.2.2.2.1
  · rw [q_w_ne _ _ (by omega), q_w_ne _ _ (by omega)]; exact d.2.2.2.2.2.2.1
  · intro k hk; rw [q_w_ne _ _ (by omega), q_w_ne _ _ (by omega)]; exact d.2.2.2.2.2.2.2.1 k hk
  · intro k hk
    show q_w (q_w n 59 (85 + a) (nI (lV l a ||| 2 ^ c))) 59 (85 + c) (nI (lV l c ||| 2 ^ a)) 59 (85 + k) = nI (up1 (up1 (lV l) a (lV l a ||| 2 ^ c)) c (lV l c ||| 2 ^ a) k)
    rw [vi_get _ _ _ _ _ _ hac]
    by_cases z : k = c
    · rw [if_pos z, z, q_w_same]
    · rw [if_neg z, q_w_ne _ _ (by omega)]
      by_cases y : k = a
      · rw [if_pos y, y, q_w_same]
      · rw [if_neg y, q_w_ne _ _ (by omega)]
        exact d.2.2.2.2.2.2.2.2.1 k hk
  · intro k hk
    have hk : k < lH l := hk
    have := o.2.1
    rw [q_w_ne _ _ (by omega), q_w_ne _ _ (by omega)]; exact d.2.2.2.2.2.2.2.2.2.1 k hk
  · intro k hk
    have hk : k < lK l := hk
    have := o.2.2.1
    rw [q_w_ne _ _ (by omega), q_w_ne _ _ (by omega)]; exact d.2.2.2.2.2.2.2.2.2.2 k hk
theorem div8 {a c : Nat} (ha : a < 8) (hc : c < 8) : nI (8 * a + c) / 8 = nI a := by
  have : nI (8 * a + c) / nI 8 = nI ((8 * a + c) / 8) := pk_div (by omega) (by omega) (by omega)
  rw [show (8 * a + c) / 8 = a by omega] at this
  exact this
theorem rem8 {a c : Nat} (ha : a < 8) (hc : c < 8) : nI (8 * a + c) - nI a * 8 = nI c := by
  rw [i_8, pk_mul, pk_sub (by omega), show 8 * a + c - a * 8 = c by omega]
theorem body_f {len : Nat} {tx : Nat → Nat} {it b : Nat} {m n m1 n0 n1 : Nat → Nat → Int32} {b1 e1 : Nat} {l : aL} (ht : rText len tx m1 n1) (hr : tRl len tx m1 n1 b1 e1) (hb : b < b1) (f1 : frCd m m1) (f2 : frMd n n1) (hn : F_Mo_token n0 = some n1) (h : dA l it m1 n1) : bOut len tx it b m n (F_Re_readBody_1 m1 102) (wqb (F_Mo_readsFurrow n0)) := by
  have l2 := ht.2.2.1
  have be := hr.2.2.2.2.1
  have P8 := h.1.1.2
  have hc : F_Re_readBody_1 m1 102 = wqb (F_Re_readFurrow_1 m1) := rfl
  rw [hc]
  refine bOut.map (rc := F_Re_readFurrow_1 m1) (rm := F_Mo_readsFurrow n0) ?_ (fun x hx => wqb0 hx) (fun x hx => wqb1 hx) (fun x hx => wqb0 hx) (fun x hx => wqb1 hx)
  rcases two_ok ht hr h.1.1.1 P8 h.2.1.1 h.2.2.1.1 hn with ⟨a, c, m2, n2, b2, e2, ha, hcc, hac, t1, t2, t3, g1, g2, g3, g4⟩ | ⟨m2, n2, b2, e2, t1, t2, g1, g2, g3⟩
  · have ht2 := ht.fr g1 g2
    have h2 := h.fr g1 g2
    obtain ⟨m3, n3, b3, e3, a1, a2, a3, a4, a5, a6⟩ := next_ok (nw := n2) ht2 g4 g3.2 rfl rfl
    have ht3 := ht2.fr a3 a4
    have h3 := h2.fr a3 a4
    have be2 := g4.2.2.2.2.1
    have be3 := a6.2.2.2.2.1
    unfold F_Re_readFurrow_1 F_Mo_readsFurrow
    rw [t1, Option.bind_some, t3, Option.bind_some]
    dsimp only
    rw [if_neg (nI_neg9 (by omega)), if_neg (nI_neg9 (by omega)), t2 m3 a1, Option.bind_some, a2, Option.bind_some]
    dsimp only
    rw [if_neg (nI_neg9 (by omega)), div8 (by omega) (by omega), rem8 (by omega) (by omega)]
    rcases num_ok a6 (lo := 1) (hi := 9) (by omega) (by omega) with ⟨v, v1, v2, v3, v4, v5, v6, v7, v8⟩ | ⟨v1, v2⟩
    · obtain ⟨m4, n4, b4, e4, k1, k2, k3, k4, k5, k6⟩ := next_ok (nw := q_w (q_w n3 59 (21 + (8 * a + c)) (nI v)) 59 (21 + (8 * c + a)) (nI v)) ht3 a6 v4 (by rw [q_w_row _ _ _ (by omega), q_w_row _ _ _ (by omega)]) (by rw [q_w_row _ _ _ (by omega), q_w_row _ _ _ (by omega)])
      have d4 : dA (sFu l a c v) it (q_w (q_w m4 4 (8 * a + c) (nI v)) 4 (8 * c + a) (nI v)) n4 := (dA_F h3 ha hcc hac v2).fr ((k3.qw _ _ (by omega)).qw _ _ (by omega)) k4
      rw [show F_Re_takeNumber_1 m3 1 9 = _ from v8 m4 k1, Option.bind_some, show F_Mo_isNumber n3 1 9 = _ from v7, Option.bind_some]
      dsimp only
      rw [if_neg (nI_neg9 (by omega)), if_neg ne1, v6, i_21, nI_add, i_8, pk_mul, nI_add, nI_add, show 21 + c * 8 + a = 21 + (8 * c + a) by omega, q_in_nI (j := 21 + (8 * a + c)) (by omega) (by omega), q_in_nI (j := 21 + (8 * c + a)) (by omega) (by omega), nI_clamp (n := 21 + (8 * a + c)) (by omega), nI_clamp (n := 21 + (8 * c + a)) (by omega), cond_true, cond_true, k2, Option.bind_some]
      have pf : F_La_putFurrow_3 m4 (nI a) (nI c) (nI v) = some (q_w (q_w m4 4 (8 * a + c) (nI v)) 4 (8 * c + a) (nI v)) := by
        unfold F_La_putFurrow_3
        rw [pair_nI, Option.bind_some, pair_nI, Option.bind_some, q_in_nI (j := 8 * a + c) (by omega) (by omega), q_in_nI (j := 8 * c + a) (by omega) (by omega), nI_clamp (n := 8 * a + c) (by omega), nI_clamp (n := 8 * c + a) (by omega)]
        rfl
      rw [pf, Option.bind_some]
      exact ⟨_, n4, ((f1.tr ((g1.tr a3).tr k3).d).w (k := 4) (nI v) (by omega)).w (k := 4) (nI v) (by omega), (((f2.tr (g2.tr a4).d).w _ _).w _ _).tr k4.d, Or.inr ⟨rfl, rfl, sFu l a c v, b4, e4, by omega, k6.of (by rw [q_w_row _ _ _ (by omega), q_w_row _ _ _ (by omega)]) (by rw [q_w_row _ _ _ (by omega), q_w_row _ _ _ (by omega)]) (by rw [q_w_row _ _ _ (by omega), q_w_row _ _ _ (by omega)]) rfl, d4⟩⟩
    · rw [show F_Re_takeNumber_1 m3 1 9 = _ from v2, Option.bind_some, show F_Mo_isNumber n3 1 9 = _ from v1, Option.bind_some]
      exact bOut.fail (mB := m3) (nB := n3) l2 (f1.tr (g1.tr a3).d) (f2.tr (g2.tr a4).d) rfl rfl a6
  · refine bOut.fail (mB := m2) (nB := n2) l2 (f1.tr g1.d) (f2.tr g2.d) ?_ ?_ g3
    · unfold F_Re_readFurrow_1
      rcases t1 with t1 | ⟨a, m', ha, t1, t3⟩
      · rw [t1]
        rfl
      · rw [t1, Option.bind_some]
        dsimp only
        rw [if_neg (nI_neg9 (by omega)), t3]
        rfl
    · unfold F_Mo_readsFurrow
      rw [t2]
      rfl
theorem body_v {len : Nat} {tx : Nat → Nat} {it b : Nat} {m n m1 n0 n1 : Nat → Nat → Int32} {b1 e1 : Nat} {l : aL} (ht : rText len tx m1 n1) (hr : tRl len tx m1 n1 b1 e1) (hb : b < b1) (f1 : frCd m m1) (f2 : frMd n n1) (hn : F_Mo_token n0 = some n1) (h : dA l it m1 n1) : bOut len tx it b m n (F_Re_readBody_1 m1 118) (wqb (F_Mo_readsSight n0)) := by
  have l2 := ht.2.2.1
  have be := hr.2.2.2.2.1
  have P8 := h.1.1.2
  have hc : F_Re_readBody_1 m1 118 = wqb (F_Re_readSight_1 m1) := rfl
  rw [hc]
  refine bOut.map (rc := F_Re_readSight_1 m1) (rm := F_Mo_readsSight n0) ?_ (fun x hx => wqb0 hx) (fun x hx => wqb1 hx) (fun x hx => wqb0 hx) (fun x hx => wqb1 hx)
  rcases two_ok ht hr h.1.1.1 P8 h.2.1.1 h.2.2.1.1 hn with ⟨a, c, m2, n2, b2, e2, ha, hcc, hac, t1, t2, t3, g1, g2, g3, g4⟩ | ⟨m2, n2, b2, e2, t1, t2, g1, g2, g3⟩
  · have ht2 := ht.fr g1 g2
    have h2 := h.fr g1 g2
    have be2 := g4.2.2.2.2.1
    obtain ⟨m3, n3, b3, e3, a1, a2, a3, a4, a5, a6⟩ := next_ok (nw := q_w (q_w n2 59 (85 + a) (nI (lV l a ||| 2 ^ c))) 59 (85 + c) (nI (lV l c ||| 2 ^ a))) ht2 g4 g3.2 (by rw [q_w_row _ _ _ (by omega), q_w_row _ _ _ (by omega)]) (by rw [q_w_row _ _ _ (by omega), q_w_row _ _ _ (by omega)])
    have d3 : dA (sVi l a c) it (q_w (q_w m3 6 a (nI (lV l a ||| 2 ^ c))) 6 c (nI (lV l c ||| 2 ^ a))) n3 := (dA_V h2 ha hcc hac).fr ((a3.qw _ _ (by omega)).qw _ _ (by omega)) a4
    have va : n2 59 (85 + a) = nI (lV l a) := h2.2.2.1.2.2.2.2.2.2.2.2.1 a (by omega)
    have vc : n2 59 (85 + c) = nI (lV l c) := h2.2.2.1.2.2.2.2.2.2.2.2.1 c (by omega)
    have ma : m3 6 a = nI (lV l a) := by rw [a3.1 _ (by omega)]; exact h2.2.1.2.2.2.2.2.2.2.1 a (by omega)
    have mc : m3 6 c = nI (lV l c) := by rw [a3.1 _ (by omega)]; exact h2.2.1.2.2.2.2.2.2.2.1 c (by omega)
    unfold F_Re_readSight_1 F_Mo_readsSight
    rw [t1, Option.bind_some, t3, Option.bind_some]
    dsimp only
    rw [if_neg (nI_neg9 (by omega)), if_neg (nI_neg9 (by omega)), t2 m3 a1, Option.bind_some]
    dsimp only
    rw [if_neg (nI_neg9 (by omega)), div8 (by omega) (by omega), rem8 (by omega) (by omega), i_85, nI_add, nI_add, q_in_nI (j := 85 + a) (by omega) (by omega), q_in_nI (j := 85 + c) (by omega) (by omega), nI_clamp (n := 85 + a) (by omega), nI_clamp (n := 85 + c) (by omega), q_w_ne _ _ (show 59 ≠ 59 ∨ 85 + c ≠ 85 + a by omega), va, vc, nI_shl1 a (by omega), nI_shl1 c (by omega), nI_or, nI_or, cond_true, cond_true, cond_true, cond_true, a2, Option.bind_some]
    have pf : F_La_putSight_3 m3 (nI a) (nI c) = some (q_w (q_w m3 6 a (nI (lV l a ||| 2 ^ c))) 6 c (nI (lV l c ||| 2 ^ a))) := by
      unfold F_La_putSight_3
      rw [q_in_nI (j := a) (by omega) (by omega), q_in_nI (j := c) (by omega) (by omega), nI_clamp (n := a) (by omega), nI_clamp (n := c) (by omega), q_w_ne _ _ (show 6 ≠ 6 ∨ c ≠ a by omega), ma, mc, nI_shl1 a (by omega), nI_shl1 c (by omega), nI_or, nI_or]
      rfl
    rw [pf, Option.bind_some]
    exact ⟨_, n3, ((f1.tr (g1.tr a3).d).w (k := 6) _ (by omega)).w (k := 6) _ (by omega), (((f2.tr g2.d).w _ _).w _ _).tr a4.d, Or.inr ⟨rfl, rfl, sVi l a c, b3, e3, by omega, a6.of (by rw [q_w_row _ _ _ (by omega), q_w_row _ _ _ (by omega)]) (by rw [q_w_row _ _ _ (by omega), q_w_row _ _ _ (by omega)]) (by rw [q_w_row _ _ _ (by omega), q_w_row _ _ _ (by omega)]) rfl, d3⟩⟩
  · refine bOut.fail (mB := m2) (nB := n2) l2 (f1.tr g1.d) (f2.tr g2.d) ?_ ?_ g3
    · unfold F_Re_readSight_1
      rcases t1 with t1 | ⟨a, m', ha, t1, t3⟩
      · rw [t1]
        rfl
      · rw [t1, Option.bind_some]
        dsimp only
        rw [if_neg (nI_neg9 (by omega)), t3]
        rfl
    · unfold F_Mo_readsSight
      rw [t2]
      rfl
