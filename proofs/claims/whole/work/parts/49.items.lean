/-! the text: items of one number -/
def sP (l : aL) (v : Nat) : aL := ((v, lH l, lK l, lS l, lT l, lR l), lF l, lV l, lM l, lC l, lW l)
def sS (l : aL) (v : Nat) : aL := ((lP l, lH l, lK l, v, lT l, lR l), lF l, lV l, lM l, lC l, lW l)
def sT (l : aL) (v : Nat) : aL := ((lP l, lH l, lK l, lS l, v, lR l), lF l, lV l, lM l, lC l, lW l)
def sR (l : aL) (v : Nat) : aL := ((lP l, lH l, lK l, lS l, lT l, v), lF l, lV l, lM l, lC l, lW l)
def sH (l : aL) (v : Nat) : aL := ((lP l, lH l + 1, lK l, lS l, lT l, lR l), lF l, lV l, up1 (lM l) (lH l) v, lC l, lW l)
theorem dA_P {l : aL} {it v : Nat} {m n : Nat → Nat → Int32} (h : dA l it m n) (h0 : lK l = 0 ∧ ∀ k, k < 64 → lF l k = 0) (h1 : 2 ≤ v) (h2 : v ≤ 8) : dA (sP l v) it (q_w m 3 0 (nI v)) (q_w n 59 0 (nI v)) := by
  have o := h.1
  refine ⟨⟨⟨h1, h2⟩, o.2.1, o.2.2.1, o.2.2.2.1, o.2.2.2.2.1, o.2.2.2.2.2.1, o.2.2.2.2.2.2.1, o.2.2.2.2.2.2.2.1, o.2.2.2.2.2.2.2.2.1, fun i hi => ?_, o.2.2.2.2.2.2.2.2.2.2.1, fun a b ha hb _ => h0.2 _ (by omega)⟩, ⟨(by first | exact q_w_same _ _ _ _ | ((repeat (rw [q_w_ne _ _ (by omega)])); exact h.2.1.1)), (by first | exact q_w_same _ _ _ _ | ((repeat (rw [q_w_ne _ _ (by omega)])); exact h.2.1.2.1)), (by first | exact q_w_same _ _ _ _ | ((repeat (rw [q_w_ne _ _ (by omega)])); exact h.2.1.2.2.1)), (by first | exact q_w_same _ _ _ _ | ((repeat (rw [q_w_ne _ _ (by omega)])); exact h.2.1.2.2.2.1)), (by first | exact q_w_same _ _ _ _ | ((repeat (rw [q_w_ne _ _ (by omega)])); exact h.2.1.2.2.2.2.1)), (by first | exact q_w_same _ _ _ _ | ((repeat (rw [q_w_ne _ _ (by omega)])); exact h.2.1.2.2.2.2.2.1)), (fun k hk => by first | ((repeat (rw [q_w_ne _ _ (by omega)])); exact h.2.1.2.2.2.2.2.2.1 k hk)), (fun k hk => by first | ((repeat (rw [q_w_ne _ _ (by omega)])); exact h.2.1.2.2.2.2.2.2.2.1 k hk)), (fun k hk => by first | ((repeat (rw [q_w_ne _ _ (by omega)])); exact h.2.1.2.2.2.2.2.2.2.2.1 k hk)), (fun k hk => by first | ((repeat (rw [q_w_ne _ _ (by omega)])); exact h.2.1.2.2.2.2.2.2.2.2.2 k hk))⟩, ⟨(by first | exact q_w_same _ _ _ _ | ((repeat (rw [q_w_ne _ _ (by omega)])); exact h.2.2.1.1)), (by first | exact q_w_same _ _ _ _ | ((repeat (rw [q_w_ne _ _ (by omega)])); exact h.2.2.1.2.1)), (by first | exact q_w_same _ _ _ _ | ((repeat (rw [q_w_ne _ _ (by omega)])); exact h.2.2.1.2.2.1)), (by first | exact q_w_same _ _ _ _ | ((repeat (rw [q_w_ne _ _ (by omega)])); exact h.2.2.1.2.2.2.1)), (by first | exact q_w_same _ _ _ _ | ((repeat (rw [q_w_ne _ _ (by omega)])); exact h.2.2.1.2.2.2.2.1)), (by first | exact q_w_same _ _ _ _ | ((repeat (rw [q_w_ne _ _ (by omega)])); exact h.2.2.1.2.2.2.2.2.1)), (by first | exact q_w_same _ _ _ _ | ((repeat (rw [q_w_ne _ _ (by omega)])); exact h.2.2.1.2.2.2.2.2.2.1)), (fun k hk => by first | ((repeat (rw [q_w_ne _ _ (by omega)])); exact h.2.2.1.2.2.2.2.2.2.2.1 k hk)), (fun k hk => by first | ((repeat (rw [q_w_ne _ _ (by omega)])); exact h.2.2.1.2.2.2.2.2.2.2.2.1 k hk)), (fun k hk => by first | ((repeat (rw [q_w_ne _ _ (by omega)])); exact h.2.2.1.2.2.2.2.2.2.2.2.2.1 k hk)), (fun k hk => by first | ((repeat (rw [q_w_ne _ _ (by omega)])); exact h.2.2.1.2.2.2.2.2.2.2.2.2.2 k hk))⟩, h.2.2.2.fr (q_w_ne _ _ (by omega)) (q_w_ne _ _ (by omega))⟩
  have hi : i < lK l := hi
  rw [h0.1] at hi
  exact absurd hi (by omega)
theorem dA_S {l : aL} {it v : Nat} {m n : Nat → Nat → Int32} (h : dA l it m n) (h1 : 1 ≤ v) (h2 : v ≤ 9) : dA (sS l v) it (q_w m 3 3 (nI v)) (q_w n 59 3 (nI v)) := by
  have o := h.1
  exact ⟨⟨o.1, o.2.1, o.2.2.1, ⟨h1, h2⟩, o.2.2.2.2.1, o.2.2.2.2.2.1, o.2.2.2.2.2.2.1, o.2.2.2.2.2.2.2.1, o.2.2.2.2.2.2.2.2.1, o.2.2.2.2.2.2.2.2.2.1, o.2.2.2.2.2.2.2.2.2.2.1, o.2.2.2.2.2.2.2.2.2.2.2⟩, ⟨(by first | exact q_w_same _ _ _ _ | ((repeat (rw [q_w_ne _ _ (by omega)])); exact h.2.1.1)), (by first | exact q_w_same _ _ _ _ | ((repeat (rw [q_w_ne _ _ (by omega)])); exact h.2.1.2.1)), (by first | exact q_w_same _ _ _ _ | ((repeat (rw [q_w_ne _ _ (by omega)])); exact h.2.1.2.2.1)), (by first | exact q_w_same _ _ _ _ | ((repeat (rw [q_w_ne _ _ (by omega)])); exact h.2.1.2.2.2.1)), (by first | exact q_w_same _ _ _ _ | ((repeat (rw [q_w_ne _ _ (by omega)])); exact h.2.1.2.2.2.2.1)), (by first | exact q_w_same _ _ _ _ | ((repeat (rw [q_w_ne _ _ (by omega)])); exact h.2.1.2.2.2.2.2.1)), (fun k hk => by first | ((repeat (rw [q_w_ne _ _ (by omega)])); exact h.2.1.2.2.2.2.2.2.1 k hk)), (fun k hk => by first | ((repeat (rw [q_w_ne _ _ (by omega)])); exact h.2.1.2.2.2.2.2.2.2.1 k hk)), (fun k hk => by first | ((repeat (rw [q_w_ne _ _ (by omega)])); exact h.2.1.2.2.2.2.2.2.2.2.1 k hk)), (fun k hk => by first | ((repeat (rw [q_w_ne _ _ (by omega)])); exact h.2.1.2.2.2.2.2.2.2.2.2 k hk))⟩, ⟨(by first | exact q_w_same _ _ _ _ | ((repeat (rw [q_w_ne _ _ (by omega)])); exact h.2.2.1.1)), (by first | exact q_w_same _ _ _ _ | ((repeat (rw [q_w_ne _ _ (by omega)])); exact h.2.2.1.2.1)), (by first | exact q_w_same _ _ _ _ | ((repeat (rw [q_w_ne _ _ (by omega)])); exact h.2.2.1.2.2.1)), (by first | exact q_w_same _ _ _ _ | ((repeat (rw [q_w_ne _ _ (by omega)])); exact h.2.2.1.2.2.2.1)), (by first | exact q_w_same _ _ _ _ | ((repeat (rw [q_w_ne _ _ (by omega)])); exact h.2.2.1.2.2.2.2.1)), (by first | exact q_w_same _ _ _ _ | ((repeat (rw [q_w_ne _ _ (by omega)])); exact h.2.2.1.2.2.2.2.2.1)), (by first | exact q_w_same _ _ _ _ | ((repeat (rw [q_w_ne _ _ (by omega)])); exact h.2.2.1.2.2.2.2.2.2.1)), (fun k hk => by first | ((repeat (rw [q_w_ne _ _ (by omega)])); exact h.2.2.1.2.2.2.2.2.2.2.1 k hk)), (fun k hk => by first | ((repeat (rw [q_w_ne _ _ (by omega)])); exact h.2.2.1.2.2.2.2.2.2.2.2.1 k hk)), (fun k hk => by first | ((repeat (rw [q_w_ne _ _ (by omega)])); exact h.2.2.1.2.2.2.2.2.2.2.2.2.1 k hk)), (fun k hk => by first | ((repeat (rw [q_w_ne _ _ (by omega)])); exact h.2.2.1.2.2.2.2.2.2.2.2.2.2 k hk))⟩, h.2.2.2.fr (q_w_ne _ _ (by omega)) (q_w_ne _ _ (by omega))⟩
theorem dA_T {l : aL} {it v : Nat} {m n : Nat → Nat → Int32} (h : dA l it m n) (h2 : v ≤ 3) : dA (sT l v) it (q_w m 3 4 (nI v)) (q_w n 59 4 (nI v)) := by
  have o := h.1
  exact ⟨⟨o.1, o.2.1, o.2.2.1, o.2.2.2.1, h2, o.2.2.2.2.2.1, o.2.2.2.2.2.2.1, o.2.2.2.2.2.2.2.1, o.2.2.2.2.2.2.2.2.1, o.2.2.2.2.2.2.2.2.2.1, o.2.2.2.2.2.2.2.2.2.2.1, o.2.2.2.2.2.2.2.2.2.2.2⟩, ⟨(by first | exact q_w_same _ _ _ _ | ((repeat (rw [q_w_ne _ _ (by omega)])); exact h.2.1.1)), (by first | exact q_w_same _ _ _ _ | ((repeat (rw [q_w_ne _ _ (by omega)])); exact h.2.1.2.1)), (by first | exact q_w_same _ _ _ _ | ((repeat (rw [q_w_ne _ _ (by omega)])); exact h.2.1.2.2.1)), (by first | exact q_w_same _ _ _ _ | ((repeat (rw [q_w_ne _ _ (by omega)])); exact h.2.1.2.2.2.1)), (by first | exact q_w_same _ _ _ _ | ((repeat (rw [q_w_ne _ _ (by omega)])); exact h.2.1.2.2.2.2.1)), (by first | exact q_w_same _ _ _ _ | ((repeat (rw [q_w_ne _ _ (by omega)])); exact h.2.1.2.2.2.2.2.1)), (fun k hk => by first | ((repeat (rw [q_w_ne _ _ (by omega)])); exact h.2.1.2.2.2.2.2.2.1 k hk)), (fun k hk => by first | ((repeat (rw [q_w_ne _ _ (by omega)])); exact h.2.1.2.2.2.2.2.2.2.1 k hk)), (fun k hk => by first | ((repeat (rw [q_w_ne _ _ (by omega)])); exact h.2.1.2.2.2.2.2.2.2.2.1 k hk)), (fun k hk => by first | ((repeat (rw [q_w_ne _ _ (by omega)])); exact h.2.1.2.2.2.2.2.2.2.2.2 k hk))⟩, ⟨(by first | exact q_w_same _ _ _ _ | ((repeat (rw [q_w_ne _ _ (by omega)])); exact h.2.2.1.1)), (by first | exact q_w_same _ _ _ _ | ((repeat (rw [q_w_ne _ _ (by omega)])); exact h.2.2.1.2.1)), (by first | exact q_w_same _ _ _ _ | ((repeat (rw [q_w_ne _ _ (by omega)])); exact h.2.2.1.2.2.1)), (by first | exact q_w_same _ _ _ _ | ((repeat (rw [q_w_ne _ _ (by omega)])); exact h.2.2.1.2.2.2.1)), (by first | exact q_w_same _ _ _ _ | ((repeat (rw [q_w_ne _ _ (by omega)])); exact h.2.2.1.2.2.2.2.1)), (by first | exact q_w_same _ _ _ _ | ((repeat (rw [q_w_ne _ _ (by omega)])); exact h.2.2.1.2.2.2.2.2.1)), (by first | exact q_w_same _ _ _ _ | ((repeat (rw [q_w_ne _ _ (by omega)])); exact h.2.2.1.2.2.2.2.2.2.1)), (fun k hk => by first | ((repeat (rw [q_w_ne _ _ (by omega)])); exact h.2.2.1.2.2.2.2.2.2.2.1 k hk)), (fun k hk => by first | ((repeat (rw [q_w_ne _ _ (by omega)])); exact h.2.2.1.2.2.2.2.2.2.2.2.1 k hk)), (fun k hk => by first | ((repeat (rw [q_w_ne _ _ (by omega)])); exact h.2.2.1.2.2.2.2.2.2.2.2.2.1 k hk)), (fun k hk => by first | ((repeat (rw [q_w_ne _ _ (by omega)])); exact h.2.2.1.2.2.2.2.2.2.2.2.2.2 k hk))⟩, h.2.2.2.fr (q_w_ne _ _ (by omega)) (q_w_ne _ _ (by omega))⟩
theorem dA_R {l : aL} {it v : Nat} {m n : Nat → Nat → Int32} (h : dA l it m n) (h2 : v ≤ 99) : dA (sR l v) it (q_w m 3 5 (nI v)) (q_w n 59 5 (nI v)) := by
  have o := h.1
  exact ⟨⟨o.1, o.2.1, o.2.2.1, o.2.2.2.1, o.2.2.2.2.1, h2, o.2.2.2.2.2.2.1, o.2.2.2.2.2.2.2.1, o.2.2.2.2.2.2.2.2.1, o.2.2.2.2.2.2.2.2.2.1, o.2.2.2.2.2.2.2.2.2.2.1, o.2.2.2.2.2.2.2.2.2.2.2⟩, ⟨(by first | exact q_w_same _ _ _ _ | ((repeat (rw [q_w_ne _ _ (by omega)])); exact h.2.1.1)), (by first | exact q_w_same _ _ _ _ | ((repeat (rw [q_w_ne _ _ (by omega)])); exact h.2.1.2.1)), (by first | exact q_w_same _ _ _ _ | ((repeat (rw [q_w_ne _ _ (by omega)])); exact h.2.1.2.2.1)), (by first | exact q_w_same _ _ _ _ | ((repeat (rw [q_w_ne _ _ (by omega)])); exact h.2.1.2.2.2.1)), (by first | exact q_w_same _ _ _ _ | ((repeat (rw [q_w_ne _ _ (by omega)])); exact h.2.1.2.2.2.2.1)), (by first | exact q_w_same _ _ _ _ | ((repeat (rw [q_w_ne _ _ (by omega)])); exact h.2.1.2.2.2.2.2.1)), (fun k hk => by first | ((repeat (rw [q_w_ne _ _ (by omega)])); exact h.2.1.2.2.2.2.2.2.1 k hk)), (fun k hk => by first | ((repeat (rw [q_w_ne _ _ (by omega)])); exact h.2.1.2.2.2.2.2.2.2.1 k hk)), (fun k hk => by first | ((repeat (rw [q_w_ne _ _ (by omega)])); exact h.2.1.2.2.2.2.2.2.2.2.1 k hk)), (fun k hk => by first | ((repeat (rw [q_w_ne _ _ (by omega)])); exact h.2.1.2.2.2.2.2.2.2.2.2 k hk))⟩, ⟨(by first | exact q_w_same _ _ _ _ | ((repeat (rw [q_w_ne _ _ (by omega)])); exact h.2.2.1.1)), (by first | exact q_w_same _ _ _ _ | ((repeat (rw [q_w_ne _ _ (by omega)])); exact h.2.2.1.2.1)), (by first | exact q_w_same _ _ _ _ | ((repeat (rw [q_w_ne _ _ (by omega)])); exact h.2.2.1.2.2.1)), (by first | exact q_w_same _ _ _ _ | ((repeat (rw [q_w_ne _ _ (by omega)])); exact h.2.2.1.2.2.2.1)), (by first | exact q_w_same _ _ _ _ | ((repeat (rw [q_w_ne _ _ (by omega)])); exact h.2.2.1.2.2.2.2.1)), (by first | exact q_w_same _ _ _ _ | ((repeat (rw [q_w_ne _ _ (by omega)])); exact h.2.2.1.2.2.2.2.2.1)), (by first | exact q_w_same _ _ _ _ | ((repeat (rw [q_w_ne _ _ (by omega)])); exact h.2.2.1.2.2.2.2.2.2.1)), (fun k hk => by first | ((repeat (rw [q_w_ne _ _ (by omega)])); exact h.2.2.1.2.2.2.2.2.2.2.1 k hk)), (fun k hk => by first | ((repeat (rw [q_w_ne _ _ (by omega)])); exact h.2.2.1.2.2.2.2.2.2.2.2.1 k hk)), (fun k hk => by first | ((repeat (rw [q_w_ne _ _ (by omega)])); exact h.2.2.1.2.2.2.2.2.2.2.2.2.1 k hk)), (fun k hk => by first | ((repeat (rw [q_w_ne _ _ (by omega)])); exact h.2.2.1.2.2.2.2.2.2.2.2.2.2 k hk))⟩, h.2.2.2.fr (q_w_ne _ _ (by omega)) (q_w_ne _ _ (by omega))⟩
theorem frC.qw {a b : Nat → Nat → Int32} (h : frC a b) {k : Nat} (j : Nat) (x : Int32) (hk : k ≠ 1) : frC (q_w a k j x) (q_w b k j x) := by
  refine ⟨fun k' hk' => ?_, fun j' hj' => ?_⟩
  · funext i
    rw [q_w_get, q_w_get, h.1 k' hk']
  · rw [q_w_ne _ _ (by omega), q_w_ne _ _ (by omega)]
    exact h.2 j' hj'
/-- the reference's answer, told once more -/
def wrp (r : Option (Int32 × (Nat → Nat → Int32))) : Option (Int32 × (Nat → Nat → Int32)) := Option.bind r (fun (a, b) => if a = 0 then some (0, b) else some (1, b))
def wqb (r : Option (Int32 × (Nat → Nat → Int32))) : Option (Int32 × (Nat → Nat → Int32)) := Option.bind r (fun (a, b) => cond (q_bl a) (some (a, b)) none)
theorem wrp0 {r : Option (Int32 × (Nat → Nat → Int32))} {b : Nat → Nat → Int32} (h : r = some (0, b)) : wrp r = some (0, b) := by rw [h]; rfl
theorem wrp1 {r : Option (Int32 × (Nat → Nat → Int32))} {b : Nat → Nat → Int32} (h : r = some (1, b)) : wrp r = some (1, b) := by rw [h]; rfl
theorem wqb0 {r : Option (Int32 × (Nat → Nat → Int32))} {b : Nat → Nat → Int32} (h : r = some (0, b)) : wqb r = some (0, b) := by
  rw [h]
  unfold wqb
  rw [Option.bind_some]
  dsimp only
  rw [q_bl0]
  rfl
theorem wqb1 {r : Option (Int32 × (Nat → Nat → Int32))} {b : Nat → Nat → Int32} (h : r = some (1, b)) : wqb r = some (1, b) := by
  rw [h]
  unfold wqb
  rw [Option.bind_some]
  dsimp only
  rw [q_bl1]
  rfl
theorem bOut.map {tx : Nat → Nat} {len it b : Nat} {m n : Nat → Nat → Int32} {rc rm rc' rm' : Option (Int32 × (Nat → Nat → Int32))} (h : bOut len tx it b m n rc rm) (c0 : ∀ x, rc = some (0, x) → rc' = some (0, x)) (c1 : ∀ x, rc = some (1, x) → rc' = some (1, x)) (m0 : ∀ x, rm = some (0, x) → rm' = some (0, x)) (m1 : ∀ x, rm = some (1, x) → rm' = some (1, x)) : bOut len tx it b m n rc' rm' := by
  obtain ⟨mB, nB, h1, h2, h3⟩ := h
  refine ⟨mB, nB, h1, h2, ?_⟩
  rcases h3 with ⟨a1, a2, a3⟩ | ⟨a1, a2, a3⟩
  · exact Or.inl ⟨a1.elim (fun z => Or.inl (c0 _ z)) (fun z => Or.inr ⟨c1 _ z.1, z.2⟩), a2.elim (fun z => Or.inl (m0 _ z)) (fun z => Or.inr ⟨m1 _ z.1, z.2⟩), a3⟩
  · exact Or.inr ⟨c1 _ a1, m1 _ a2, a3⟩
theorem readsNumber_eq {n0 n1 : Nat → Nat → Int32} (hn : F_Mo_token n0 = some n1) {pl : Nat} (hp : pl < 93) (lo hi : Int32) : F_Mo_readsNumber n0 (nI pl) lo hi = Option.bind (F_Mo_isNumber n1 lo hi) (fun r3 => if r3 = 0 then some (0, n1) else Option.bind (F_Mo_token (q_w n1 59 pl (n1 56 14))) (fun m7 => some (1, m7))) := by
  unfold F_Mo_readsNumber
  rw [hn, Option.bind_some, q_in_nI hp (by omega), nI_clamp (by omega)]
  rfl
theorem body_n {len : Nat} {tx : Nat → Nat} {it b : Nat} {m n m1 n0 n1 : Nat → Nat → Int32} {b1 e1 : Nat} {l : aL} (ht : rText len tx m1 n1) (hr : tRl len tx m1 n1 b1 e1) (hb : b < b1) (f1 : frCd m m1) (f2 : frMd n n1) (hn : F_Mo_token n0 = some n1) (h : dA l it m1 n1) (h0 : lK l = 0 ∧ ∀ k, k < 64 → lF l k = 0) : bOut len tx it b m n (F_Re_readBody_1 m1 110) (wrp (F_Mo_readsNumber n0 0 2 8)) := by
  have o := one_ok (it := it) (b := b) (lo := 2) (hi := 8) (pl := 0) ht hr hb (by omega) (by omega) f1 f2 (fun x a => q_w a 3 0 x) (fun x a => (frCd.rf a).w _ (by omega)) (fun x a k hk => q_w_row _ _ _ hk) (by omega) (readsNumber_eq hn (by omega) _ _) (fun v m2 n2 v1 v2 a3 a4 => ⟨sP l v, (dA_P h h0 v1 v2).fr (a3.qw _ _ (by omega)) a4⟩)
  exact o.map (fun x hx => hx) (fun x hx => hx) (fun x hx => wrp0 hx) (fun x hx => wrp1 hx)
theorem body_s {len : Nat} {tx : Nat → Nat} {it b : Nat} {m n m1 n0 n1 : Nat → Nat → Int32} {b1 e1 : Nat} {l : aL} (ht : rText len tx m1 n1) (hr : tRl len tx m1 n1 b1 e1) (hb : b < b1) (f1 : frCd m m1) (f2 : frMd n n1) (hn : F_Mo_token n0 = some n1) (h : dA l it m1 n1) : bOut len tx it b m n (F_Re_readBody_1 m1 115) (wrp (F_Mo_readsNumber n0 3 1 9)) := by
  have o := one_ok (it := it) (b := b) (lo := 1) (hi := 9) (pl := 3) ht hr hb (by omega) (by omega) f1 f2 (fun x a => q_w a 3 3 x) (fun x a => (frCd.rf a).w _ (by omega)) (fun x a k hk => q_w_row _ _ _ hk) (by omega) (readsNumber_eq hn (by omega) _ _) (fun v m2 n2 v1 v2 a3 a4 => ⟨sS l v, (dA_S h v1 v2).fr (a3.qw _ _ (by omega)) a4⟩)
  exact o.map (fun x hx => hx) (fun x hx => hx) (fun x hx => wrp0 hx) (fun x hx => wrp1 hx)
theorem body_t {len : Nat} {tx : Nat → Nat} {it b : Nat} {m n m1 n0 n1 : Nat → Nat → Int32} {b1 e1 : Nat} {l : aL} (ht : rText len tx m1 n1) (hr : tRl len tx m1 n1 b1 e1) (hb : b < b1) (f1 : frCd m m1) (f2 : frMd n n1) (hn : F_Mo_token n0 = some n1) (h : dA l it m1 n1) : bOut len tx it b m n (F_Re_readBody_1 m1 116) (wrp (F_Mo_readsNumber n0 4 0 3)) := by
  have o := one_ok (it := it) (b := b) (lo := 0) (hi := 3) (pl := 4) ht hr hb (by omega) (by omega) f1 f2 (fun x a => q_w a 3 4 x) (fun x a => (frCd.rf a).w _ (by omega)) (fun x a k hk => q_w_row _ _ _ hk) (by omega) (readsNumber_eq hn (by omega) _ _) (fun v m2 n2 v1 v2 a3 a4 => ⟨sT l v, (dA_T h v2).fr (a3.qw _ _ (by omega)) a4⟩)
  exact o.map (fun x hx => hx) (fun x hx => hx) (fun x hx => wrp0 hx) (fun x hx => wrp1 hx)
theorem body_r {len : Nat} {tx : Nat → Nat} {it b : Nat} {m n m1 n0 n1 : Nat → Nat → Int32} {b1 e1 : Nat} {l : aL} (ht : rText len tx m1 n1) (hr : tRl len tx m1 n1 b1 e1) (hb : b < b1) (f1 : frCd m m1) (f2 : frMd n n1) (hn : F_Mo_token n0 = some n1) (h : dA l it m1 n1) : bOut len tx it b m n (F_Re_readBody_1 m1 114) (wrp (F_Mo_readsNumber n0 5 0 99)) := by
  have o := one_ok (it := it) (b := b) (lo := 0) (hi := 99) (pl := 5) ht hr hb (by omega) (by omega) f1 f2 (fun x a => q_w a 3 5 x) (fun x a => (frCd.rf a).w _ (by omega)) (fun x a k hk => q_w_row _ _ _ hk) (by omega) (readsNumber_eq hn (by omega) _ _) (fun v m2 n2 v1 v2 a3 a4 => ⟨sR l v, (dA_R h v2).fr (a3.qw _ _ (by omega)) a4⟩)
  exact o.map (fun x hx => hx) (fun x hx => hx) (fun x hx => wrp0 hx) (fun x hx => wrp1 hx)
theorem dA_H {l : aL} {it v : Nat} {m n : Nat → Nat → Int32} (h : dA l it m n) (h5 : lH l < 5) (h2 : v ≤ 15) : dA (sH l v) it (q_w (q_w m 7 (lH l) (nI v)) 3 1 (nI (lH l + 1))) (q_w (q_w n 59 (8 + lH l) (nI v)) 59 1 (nI (lH l + 1))) := by
  have o := h.1
  have c := h.2.1
  have d := h.2.2.1
  refine ⟨⟨o.1, h5, o.2.2.1, o.2.2.2.1, o.2.2.2.2.1, o.2.2.2.2.2.1, o.2.2.2.2.2.2.1, o.2.2.2.2.2.2.2.1, fun p hp => ?_, o.2.2.2.2.2.2.2.2.2.1, o.2.2.2.2.2.2.2.2.2.2.1, o.2.2.2.2.2.2.2.2.2.2.2⟩, ⟨?_, ?_, ?_, ?_, ?_, ?_, ?_, ?_, ?_, ?_⟩, ⟨?_, ?_, ?_, ?_, ?_, ?_, ?_, ?_, ?_, ?_, ?_⟩, h.2.2.2.fr (by rw [q_w_ne _ _ (by omega), q_w_ne _ _ (by omega)]) (by rw [q_w_ne _ _ (by omega), q_w_ne _ _ (by omega)])⟩
  · have hp : p < lH l + 1 := hp
    show up1 (lM l) (lH l) v p ≤ 15
    by_cases z : p = lH l
    · rw [z, up1_same]
      exact h2
    · rw [up1_ne _ _ z]
      exact o.2.2.2.2.2.2.2.2.1 p (by omega)
  · rw [q_w_ne _ _ (by omega), q_w_ne _ _ (by omega)]; exact c.1
  · exact q_w_same _ _ _ _
  · rw [q_w_ne _ _ (by omega), q_w_ne _ _ (by omega)]; exact c.2.2.1
  · rw [q_w_ne _ _ (by omega), q_w_ne _ _ (by omega)]; exact c.2.2.2.1
  · rw [q_w_ne _ _ (by omega), q_w_ne _ _ (by omega)]; exact c.2.2.2.2.1
  · rw [q_w_ne _ _ (by omega), q_w_ne _ _ (by omega)]; exact c.2.2.2.2.2.1
  · intro k hk; rw [q_w_ne _ _ (by omega), q_w_ne _ _ (by omega)]; exact c.2.2.2.2.2.2.1 k hk
  · intro k hk; rw [q_w_ne _ _ (by omega), q_w_ne _ _ (by omega)]; exact c.2.2.2.2.2.2.2.1 k hk
  · intro p hp
    have hp : p < lH l + 1 := hp
    show q_w (q_w m 7 (lH l) (nI v)) 3 1 (nI (lH l + 1)) 7 p = nI (up1 (lM l) (lH l) v p)
    rw [q_w_ne _ _ (by omega)]
    by_cases z : p = lH l
    · rw [z, up1_same, q_w_same]
    · rw [up1_ne _ _ z, q_w_ne _ _ (by omega)]
      exact c.2.2.2.2.2.2.2.2.1 p (by omega)
  · intro k hk; rw [q_w_ne _ _ (by omega), q_w_ne _ _ (by omega)]; exact c.2.2.2.2.2.2.2.2.2 k hk
  · rw [q_w_ne _ _ (by omega), q_w_ne _ _ (by omega)]; exact d.1
  · exact q_w_same _ _ _ _
  · rw [q_w_ne _ _ (by omega), q_w_ne _ _ (by omega)]; exact d.2.2.1
  · rw [q_w_ne _ _ (by omega), q_w_ne _ _ (by omega)]; exact d.2.2.2.1
  · rw [q_w_ne _ _ (by omega), q_w_ne _ _ (by omega)]; exact d.2.2.2.2.1
  · rw [q_w_ne _ _ (by omega), q_w_ne _ _ (by omega)]; exact d.2.2.2.2.2.1
  · rw [q_w_ne _ _ (by omega), q_w_ne _ _ (by omega)]; exact d.2.2.2.2.2.2.1
  · intro k hk; rw [q_w_ne _ _ (by omega), q_w_ne _ _ (by omega)]; exact d.2.2.2.2.2.2.2.1 k hk
  · intro k hk; rw [q_w_ne _ _ (by omega), q_w_ne _ _ (by omega)]; exact d.2.2.2.2.2.2.2.2.1 k hk
  · intro p hp
    have hp : p < lH l + 1 := hp
    show q_w (q_w n 59 (8 + lH l) (nI v)) 59 1 (nI (lH l + 1)) 59 (8 + p) = nI (up1 (lM l) (lH l) v p)
    rw [q_w_ne _ _ (by omega)]
    by_cases z : p = lH l
    · rw [z, up1_same, q_w_same]
    · rw [up1_ne _ _ z, q_w_ne _ _ (by omega)]
      exact d.2.2.2.2.2.2.2.2.2.1 p (by omega)
  · intro k hk; rw [q_w_ne _ _ (by omega), q_w_ne _ _ (by omega)]; exact d.2.2.2.2.2.2.2.2.2.2 k hk
theorem body_h {len : Nat} {tx : Nat → Nat} {it b : Nat} {m n m1 n0 n1 : Nat → Nat → Int32} {b1 e1 : Nat} {l : aL} (ht : rText len tx m1 n1) (hr : tRl len tx m1 n1 b1 e1) (hb : b < b1) (f1 : frCd m m1) (f2 : frMd n n1) (hn : F_Mo_token n0 = some n1) (h59 : n0 59 = n1 59) (h : dA l it m1 n1) (h5 : lH l < 5) : bOut len tx it b m n (F_Re_readBody_1 m1 104) (wqb (F_Mo_readsHog n0)) := by
  have l2 := ht.2.2.1
  have be := hr.2.2.2.2.1
  have e0 : n0 59 1 = nI (lH l) := by rw [h59]; exact h.2.2.1.2.1
  have hc : F_Re_readBody_1 m1 104 = wqb (F_Re_readHedgehog_1 m1) := rfl
  have hm : F_Mo_readsHog n0 = Option.bind (F_Mo_readsNumber n0 (nI (8 + lH l)) 0 15) (fun (r2, m3) => if r2 = 0 then some ((0 : Int32), m3) else some ((1 : Int32), (q_w m3 59 1 (m3 59 1 + 1)))) := by
    unfold F_Mo_readsHog
    rw [e0, if_neg (fun z => by
      have := (nI_eq (b := 5) (by omega) (by omega)).mp z
      omega), i_8, nI_add]
  rw [hc]
  refine bOut.map (rc := F_Re_readHedgehog_1 m1) (rm := F_Mo_readsHog n0) ?_ (fun x hx => wqb0 hx) (fun x hx => wqb1 hx) (fun x hx => wqb0 hx) (fun x hx => wqb1 hx)
  have rn := readsNumber_eq hn (pl := 8 + lH l) (by omega) 0 15
  rcases num_ok hr (lo := 0) (hi := 15) (by omega) (by omega) with ⟨v, v1, v2, v3, v4, v5, v6, v7, v8⟩ | ⟨v1, v2⟩
  · obtain ⟨m2, n2, b2, e2, a1, a2, a3, a4, a5, a6⟩ := next_ok (nw := q_w n1 59 (8 + lH l) (nI v)) ht hr v4 (q_w_row _ _ _ (by omega)) (q_w_row _ _ _ (by omega))
    have m31 : m2 3 1 = nI (lH l) := by rw [a3.1 _ (by omega)]; exact h.2.1.2.1
    have n31 : n2 59 1 = nI (lH l) := by rw [a4.1 _ (by omega), q_w_ne _ _ (by omega)]; exact h.2.2.1.2.1
    have d2 : dA (sH l v) it (q_w (q_w m2 7 (lH l) (nI v)) 3 1 (nI (lH l + 1))) (q_w n2 59 1 (nI (lH l + 1))) := by
      refine (dA_H h h5 v2).fr ((a3.qw _ _ (by omega)).qw _ _ (by omega)) ⟨fun k hk => ?_, fun j hj => ?_⟩
      · funext i
        rw [q_w_get, q_w_get, a4.1 k hk]
      · rw [q_w_ne _ _ (by omega), q_w_ne _ _ (by omega)]
        exact a4.2 j hj
    refine ⟨_, _, ((f1.tr a3.d).w (k := 7) (j := lH l) (nI v) (by omega)).w (k := 3) (j := 1) (nI (lH l + 1)) (by omega), ((f2.w _ _).tr a4.d).w 1 (nI (lH l + 1)), Or.inr ⟨?_, ?_, sH l v, b2, e2, by omega, a6.of (by rw [q_w_row _ _ _ (by omega), q_w_row _ _ _ (by omega)]) (by rw [q_w_row _ _ _ (by omega), q_w_row _ _ _ (by omega)]) (by rw [q_w_row _ _ _ (by omega), q_w_row _ _ _ (by omega)]) (q_w_row _ _ _ (by omega)), d2⟩⟩
    · unfold F_Re_readHedgehog_1
      rw [show F_Re_takeNumber_1 m1 0 15 = _ from v8 m2 a1, Option.bind_some]
      dsimp only
      have g5 : nI (lH l) < 5 := (nI_lt h5 (by omega) : nI (lH l) < nI 5)
      rw [if_neg (nI_neg9 (by omega)), m31, if_pos g5, q_in_nI h5 (by omega), nI_clamp (by omega), nI_1]
      rfl
    · rw [hm, rn, show F_Mo_isNumber n1 0 15 = some 1 from v7, Option.bind_some, if_neg ne1, v6, a2, Option.bind_some, Option.bind_some]
      dsimp only
      rw [if_neg ne1, n31, nI_1]
  · refine bOut.fail (mB := m1) (nB := n1) l2 f1 f2 ?_ ?_ hr
    · unfold F_Re_readHedgehog_1
      rw [show F_Re_takeNumber_1 m1 0 15 = _ from v2]
      rfl
    · rw [hm, rn, show F_Mo_isNumber n1 0 15 = some 0 from v1]
      rfl
