/-! shallow functions of the methods, and that the small machine follows them: printed by wip/whole/gen11.py -/
def qSH : List (Nat × Nat) := [(7, 10), (4, 7), (101, 200), (2, 11), (100, 64), (100, 64), (100, 8), (100, 5), (100, 8), (100, 201), (100, 201), (2, 11), (100, 64), (100, 64), (100, 8), (100, 5), (100, 8), (3, 8), (100, 12), (100, 12), (100, 12), (100, 12), (100, 8), (100, 8), (3, 8), (100, 12), (100, 12), (100, 12), (100, 12), (100, 8), (100, 8), (3, 8), (100, 12), (100, 12), (100, 12), (100, 12), (100, 8), (100, 8), (1, 3), (100, 12), (100, 12), (5, 6), (100, 8), (100, 8), (100, 8), (100, 8), (100, 8), (6, 3), (5, 6), (100, 8), (100, 8), (100, 8), (100, 8), (100, 8), (0, 5), (100, 5), (102, 256), (100, 256), (8, 21), (100, 200), (100, 93), (100, 93), (100, 65), (100, 780), (100, 130), (102, 2), (100, 64), (100, 8), (100, 8), (100, 8), (100, 8), (100, 8)]
def qRH : List (Nat × Nat × Nat) := [(58, 20, 71), (58, 19, 70), (58, 18, 69), (58, 16, 68), (58, 15, 67), (58, 10, 66), (58, 9, 65), (58, 8, 64), (58, 6, 63), (58, 5, 62), (58, 4, 61), (58, 3, 60), (58, 1, 59), (0, 8, 54), (54, 4, 57), (54, 3, 56), (54, 2, 55), (0, 7, 47), (47, 2, 48), (48, 5, 53), (48, 4, 52), (48, 3, 51), (48, 2, 50), (48, 1, 49), (0, 6, 41), (41, 5, 46), (41, 4, 45), (41, 3, 44), (41, 2, 43), (41, 1, 42), (0, 5, 38), (38, 2, 40), (38, 1, 39), (0, 4, 31), (31, 7, 37), (31, 6, 36), (31, 5, 35), (31, 4, 34), (31, 3, 33), (31, 2, 32), (0, 3, 24), (24, 7, 30), (24, 6, 29), (24, 5, 28), (24, 4, 27), (24, 3, 26), (24, 2, 25), (0, 2, 17), (17, 7, 23), (17, 6, 22), (17, 5, 21), (17, 4, 20), (17, 3, 19), (17, 2, 18), (0, 1, 11), (11, 10, 16), (11, 9, 15), (11, 8, 14), (11, 7, 13), (11, 6, 12), (0, 0, 1), (1, 4, 10), (1, 3, 9), (1, 2, 3), (3, 10, 8), (3, 9, 7), (3, 8, 6), (3, 7, 5), (3, 6, 4), (1, 0, 2)]
abbrev qMM (m n : Nat → Nat → Int32) (lm : Nat → Int64) : qM := (qSH, m, n, lm, qRH)
def q_w (m : Nat → Nat → Int32) (k j : Nat) (x : Int32) : Nat → Nat → Int32 := va_up m k (upd (m k) j x)
def q_cw (m : Nat → Nat → Int32) (k0 k1 sp dp c : Nat) : Nat → Nat → Int32 := va_up m k1 (va_cpy (m k0) (m k1) sp dp c)
def q_trL : List Int32 := [1, 10, 100, 1000, 10000, 100000]
def q_abL : List Int32 := [-1, 0, 0, 1, 2, 0]
def q_tr (j : Nat) : Int32 := q_trL.getD j 0
def q_ab (j : Nat) : Int32 := q_abL.getD j 0
def qXT (Ln : Nat) (xs : Nat → Int32) (k : Nat) : Nat × (Nat → Int32) := cond (Nat.beq k 1000) (Ln, xs) (cond (Nat.beq k 1001) (6, q_tr) (6, q_ab))
def qFU : Nat := 10000000
theorem q_ev_eq {xt : Nat → Nat × (Nat → Int32)} {d mi : Nat} {S S' : qS} {r : Option Value × qM} (h : S = S') (hE : q_Ev xt d mi S' r) : q_Ev xt d mi S r := h ▸ hE
theorem q_ev_brT {xt : Nat → Nat × (Nat → Int32)} {d mi : Nat} {S : qS} {c : Prop} [Decidable c] (hc : c) {a b : Nat} {L : List (Option Value)} {st : List Value} {M : qM} {r : Option Value × qM} (h : q_act xt mi S = some (.inl (if c then a else b, L, st, M))) (hE : q_Ev xt d mi (a, L, st, M) r) : q_Ev xt d mi S r := by
  rw [if_pos hc] at h
  exact q_ev_step h hE
theorem q_ev_brF {xt : Nat → Nat × (Nat → Int32)} {d mi : Nat} {S : qS} {c : Prop} [Decidable c] (hc : ¬ c) {a b : Nat} {L : List (Option Value)} {st : List Value} {M : qM} {r : Option Value × qM} (h : q_act xt mi S = some (.inl (if c then a else b, L, st, M))) (hE : q_Ev xt d mi (b, L, st, M) r) : q_Ev xt d mi S r := by
  rw [if_neg hc] at h
  exact q_ev_step h hE
theorem q_ev_chk {xt : Nat → Nat × (Nat → Int32)} {d mi : Nat} {S S' : qS} {b : Bool} (hb : b = true) {r : Option Value × qM} (h : q_act xt mi S = cond b (some (.inl S')) none) (hE : q_Ev xt d mi S' r) : q_Ev xt d mi S r := by
  rw [hb] at h
  exact q_ev_step h hE
theorem q_ev_chk2 {xt : Nat → Nat × (Nat → Int32)} {d mi : Nat} {S S' : qS} {b b2 : Bool} (hb : b = true) (hb2 : b2 = true) {r : Option Value × qM} (h : q_act xt mi S = cond b (cond b2 (some (.inl S')) none) none) (hE : q_Ev xt d mi S' r) : q_Ev xt d mi S r := by
  rw [hb, hb2] at h
  exact q_ev_step h hE
theorem q_ev_nz {xt : Nat → Nat × (Nat → Int32)} {d mi : Nat} {S S' : qS} {c : Prop} [Decidable c] (hc : ¬ c) {r : Option Value × qM} (h : q_act xt mi S = if c then none else some (.inl S')) (hE : q_Ev xt d mi S' r) : q_Ev xt d mi S r := by
  rw [if_neg hc] at h
  exact q_ev_step h hE
theorem q_ev_retb {xt : Nat → Nat × (Nat → Int32)} {d mi : Nat} {S : qS} {b : Bool} (hb : b = true) {v : Option Value} {M : qM} (h : q_act xt mi S = cond b (some (.inr (.inl v))) none) (hM : S.2.2.2 = M) : q_Ev xt d mi S (v, M) := by
  rw [hb] at h
  exact q_ev_ret h hM
theorem q_ev_sw {xt : Nat → Nat × (Nat → Int32)} {d mi : Nat} {S : qS} {x : Int32} {dd lo v : Int} {ts : List Int} {a : Nat} {L : List (Option Value)} {st : List Value} {M : qM} {r : Option Value × qM} (hs : q_sw x dd lo ts = v) (hv : v.toNat = a) (h : q_act xt mi S = some (.inl ((q_sw x dd lo ts).toNat, L, st, M))) (hE : q_Ev xt d mi (a, L, st, M) r) : q_Ev xt d mi S r := by
  rw [hs, hv] at h
  exact q_ev_step h hE
def q_swl (dd : Int) : Int → List Int → List Int32
  | _, [] => []
  | k, t :: ts => if t = dd then q_swl dd (k + 1) ts else Int32.ofInt k :: q_swl dd (k + 1) ts
theorem q_sw_nd {x : Int32} {dd : Int} : ∀ {ts : List Int} {lo : Int}, x ∉ q_swl dd lo ts → q_sw x dd lo ts = dd
  | [], lo, _ => rfl
  | t :: ts, lo, h => by
    unfold q_sw
    unfold q_swl at h
    by_cases ht : t = dd
    · rw [if_pos ht] at h
      rw [q_sw_nd h, ht, ite_self]
    · rw [if_neg ht] at h
      have h1 : ¬ x = Int32.ofInt lo := fun z => h (by rw [z]; exact List.mem_cons_self)
      rw [if_neg h1]
      exact q_sw_nd (fun z => h (List.mem_cons_of_mem _ z))
