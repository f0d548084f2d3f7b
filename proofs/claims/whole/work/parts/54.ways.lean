/-! the ways between places -/
def oa (x y : Option Nat) : Option Nat := match x with
  | none => none
  | some u => match y with
    | none => none
    | some v => some (u + v)
def om (z x : Option Nat) : Option Nat := match x with
  | none => z
  | some s => match z with
    | none => some s
    | some t => if s < t then some s else some t
def ph (by' : Nat) (w : Nat → Option Nat) : Nat → Option Nat := fun k => om (w k) (oa (w (8 * (k / 8) + by')) (w (8 * by' + k % 8)))
theorem ph_get (by' : Nat) (w : Nat → Option Nat) {a c : Nat} (hc : c < 8) : ph by' w (8 * a + c) = om (w (8 * a + c)) (oa (w (8 * a + by')) (w (8 * by' + c))) := by
  unfold ph
  rw [show (8 * a + c) / 8 = a by omega, show (8 * a + c) % 8 = c by omega]
theorem om_inv {z x : Option Nat} {t : Nat} (h : om z x = some t) : z = some t ∨ x = some t := by
  cases x with
  | none => exact Or.inl h
  | some s =>
    cases z with
    | none => exact Or.inr h
    | some u =>
      unfold om at h
      dsimp only at h
      by_cases q : s < u
      · rw [if_pos q] at h
        exact Or.inr h
      · rw [if_neg q] at h
        exact Or.inl h
theorem om_le1 {z x : Option Nat} {t : Nat} (h : z = some t) : ∃ u, om z x = some u ∧ u ≤ t := by
  subst h
  cases x with
  | none => exact ⟨t, rfl, Nat.le_refl _⟩
  | some s =>
    unfold om
    dsimp only
    by_cases q : s < t
    · rw [if_pos q]
      exact ⟨s, rfl, by omega⟩
    · rw [if_neg q]
      exact ⟨t, rfl, Nat.le_refl _⟩
theorem om_le2 {z x : Option Nat} {s : Nat} (h : x = some s) : ∃ u, om z x = some u ∧ u ≤ s := by
  subst h
  cases z with
  | none => exact ⟨s, rfl, Nat.le_refl _⟩
  | some t =>
    unfold om
    dsimp only
    by_cases q : s < t
    · rw [if_pos q]
      exact ⟨s, rfl, Nat.le_refl _⟩
    · rw [if_neg q]
      exact ⟨t, rfl, by omega⟩
theorem oa_inv {x y : Option Nat} {t : Nat} (h : oa x y = some t) : ∃ u v, x = some u ∧ y = some v ∧ t = u + v := by
  cases x with
  | none => exact absurd h (by simp [oa])
  | some u =>
    cases y with
    | none => exact absurd h (by simp [oa])
    | some v => exact ⟨u, v, rfl, rfl, (Option.some.inj h).symm⟩
theorem oa_some {x y : Option Nat} {u v : Nat} (h1 : x = some u) (h2 : y = some v) : oa x y = some (u + v) := by rw [h1, h2]; rfl
theorem oa_comm (x y : Option Nat) : oa x y = oa y x := by
  cases x <;> cases y
  · rfl
  · rfl
  · rfl
  · rename_i u v
    show some (u + v) = some (v + u)
    rw [Nat.add_comm]
theorem ph_le1 {n : Nat} {w : Nat → Option Nat} {a c t : Nat} (hc : c < 8) (h : w (8 * a + c) = some t) : ∃ t', ph n w (8 * a + c) = some t' ∧ t' ≤ t := by
  rw [ph_get n w hc]
  exact om_le1 h
theorem ph_le2 {n : Nat} {w : Nat → Option Nat} {a c u v : Nat} (hc : c < 8) (h1 : w (8 * a + n) = some u) (h2 : w (8 * n + c) = some v) : ∃ t', ph n w (8 * a + c) = some t' ∧ t' ≤ u + v := by
  rw [ph_get n w hc]
  exact om_le2 (oa_some h1 h2)
theorem ph_inv {n : Nat} {w : Nat → Option Nat} {a c t : Nat} (hc : c < 8) (h : ph n w (8 * a + c) = some t) : w (8 * a + c) = some t ∨ ∃ u v, w (8 * a + n) = some u ∧ w (8 * n + c) = some v ∧ t = u + v := by
  rw [ph_get n w hc] at h
  rcases om_inv h with h | h
  · exact Or.inl h
  · exact Or.inr (oa_inv h)
def fw (w : Nat → Option Nat) : Nat → Nat → Option Nat
  | 0 => w
  | n + 1 => ph n (fw w n)
/-- what holds of the ways after n places -/
def fwI (P n : Nat) (w : Nat → Option Nat) : Prop := (∀ a, a < 8 → w (8 * a + a) = some 0) ∧ (∀ a b v, a < 8 → b < 8 → a ≠ b → w (8 * a + b) = some v → 0 < v) ∧ (∀ a b, a < 8 → b < 8 → w (8 * a + b) = w (8 * b + a)) ∧ (∀ k a c u v, k < n → k < 8 → a < 8 → c < 8 → w (8 * a + k) = some u → w (8 * k + c) = some v → ∃ t, w (8 * a + c) = some t ∧ t ≤ u + v) ∧ (∀ a b v, a < 8 → b < 8 → w (8 * a + b) = some v → v ≤ 9 * 2 ^ n) ∧ (∀ a b, a < 8 → b < 8 → a ≠ b → (P ≤ a ∨ P ≤ b) → w (8 * a + b) = none)
theorem fwI_step {P n : Nat} {w : Nat → Option Nat} (hn : n < 8) (h : fwI P n w) : fwI P (n + 1) (ph n w) := by
  obtain ⟨h1, h2, h3, h4, h5, h6⟩ := h
  have colN : ∀ a, a < 8 → ph n w (8 * a + n) = w (8 * a + n) := fun a ha => by
    rw [ph_get n w hn, h1 n hn]
    cases w (8 * a + n) with
    | none => rfl
    | some u =>
      show (if u + 0 < u then some (u + 0) else some u) = some u
      rw [if_neg (by omega)]
  have rowN : ∀ c, c < 8 → ph n w (8 * n + c) = w (8 * n + c) := fun c hc => by
    rw [ph_get n w hc, h1 n hn]
    cases w (8 * n + c) with
    | none => rfl
    | some u =>
      show (if 0 + u < u then some (0 + u) else some u) = some u
      rw [if_neg (by omega)]
  refine ⟨fun a ha => ?_, fun a b v ha hb hab hv => ?_, fun a b ha hb => ?_, fun k a c u v hk hk8 ha hc hu hv => ?_, fun a b v ha hb hv => ?_, fun a b ha hb hab hp => ?_⟩
  · obtain ⟨t', e1, e2⟩ := ph_le1 (n := n) ha (h1 a ha)
    rw [e1, show t' = 0 by omega]
  · rcases ph_inv hb hv with z | ⟨u, v', z1, z2, z3⟩
    · exact h2 a b v ha hb hab z
    · by_cases y : a = n
      · have := h2 n b v' hn hb (by omega) z2
        omega
      · have := h2 a n u ha hn y z1
        omega
  · rw [ph_get n w hb, ph_get n w ha, h3 a b ha hb, h3 a n ha hn, h3 n b hn hb, oa_comm]
  · by_cases y : k = n
    · subst y
      rw [colN a ha] at hu
      rw [rowN c hc] at hv
      exact ph_le2 hc hu hv
    · have kn : k < n := by omega
      rcases ph_inv hk8 hu with p | ⟨u1, u2, p1, p2, p3⟩
      · rcases ph_inv hc hv with q | ⟨v1, v2, q1, q2, q3⟩
        · obtain ⟨t, t1, t2⟩ := h4 k a c u v kn hk8 ha hc p q
          obtain ⟨t', s1, s2⟩ := ph_le1 (n := n) hc t1
          exact ⟨t', s1, by omega⟩
        · obtain ⟨t, t1, t2⟩ := h4 k a n u v1 kn hk8 ha hn p q1
          obtain ⟨t', s1, s2⟩ := ph_le2 hc t1 q2
          exact ⟨t', s1, by omega⟩
      · rcases ph_inv hc hv with q | ⟨v1, v2, q1, q2, q3⟩
        · obtain ⟨t, t1, t2⟩ := h4 k n c u2 v kn hk8 hn hc p2 q
          obtain ⟨t', s1, s2⟩ := ph_le2 hc p1 t1
          exact ⟨t', s1, by omega⟩
        · obtain ⟨t', s1, s2⟩ := ph_le2 hc p1 q2
          exact ⟨t', s1, by omega⟩
  · rw [Nat.pow_succ]
    rcases ph_inv hb hv with z | ⟨u, v', z1, z2, z3⟩
    · have := h5 a b v ha hb z
      omega
    · have b1 := h5 a n u ha hn z1
      have b2 := h5 n b v' hn hb z2
      omega
  · rw [ph_get n w hb, h6 a b ha hb hab hp]
    have : oa (w (8 * a + n)) (w (8 * n + b)) = none := by
      by_cases y : a = n
      · have e : w (8 * n + b) = none := h6 n b hn hb (by omega) (by omega)
        rw [e]
        cases w (8 * a + n) <;> rfl
      · by_cases x : P ≤ a
        · rw [h6 a n ha hn y (Or.inl x)]
          rfl
        · by_cases y2 : n = b
          · have e : w (8 * a + n) = none := h6 a n ha hn y (by omega)
            rw [e]
            rfl
          · have e : w (8 * n + b) = none := h6 n b hn hb y2 (by omega)
            rw [e]
            cases w (8 * a + n) <;> rfl
    rw [this]
    rfl
def wi (F : Nat → Nat) : Nat → Option Nat := fun k => if k / 8 = k % 8 then some 0 else if F k = 0 then none else some (F k)
theorem fwI_0 {P : Nat} {F : Nat → Nat} (h9 : ∀ k, k < 64 → F k ≤ 9) (hs : ∀ a b, a < 8 → b < 8 → F (8 * a + b) = F (8 * b + a)) (hz : ∀ a b, a < 8 → b < 8 → P ≤ a → F (8 * a + b) = 0) : fwI P 0 (wi F) := by
  have g : ∀ a b, a < 8 → b < 8 → wi F (8 * a + b) = if a = b then some 0 else if F (8 * a + b) = 0 then none else some (F (8 * a + b)) := fun a b ha hb => by
    unfold wi
    rw [show (8 * a + b) / 8 = a by omega, show (8 * a + b) % 8 = b by omega]
  refine ⟨fun a ha => by rw [g a a ha ha, if_pos rfl], fun a b v ha hb hab hv => ?_, fun a b ha hb => ?_, fun k a c u v hk => absurd hk (by omega), fun a b v ha hb hv => ?_, fun a b ha hb hab hp => ?_⟩
  · rw [g a b ha hb, if_neg hab] at hv
    by_cases z : F (8 * a + b) = 0
    · rw [if_pos z] at hv
      exact absurd hv (by simp)
    · rw [if_neg z] at hv
      have := Option.some.inj hv
      omega
  · rw [g a b ha hb, g b a hb ha, hs a b ha hb]
    by_cases z : a = b
    · rw [if_pos z, if_pos z.symm]
    · rw [if_neg z, if_neg (show ¬ b = a from fun y => z y.symm)]
  · rw [g a b ha hb] at hv
    have f9 := h9 (8 * a + b) (by omega)
    by_cases z : a = b
    · rw [if_pos z] at hv
      have := Option.some.inj hv
      omega
    · rw [if_neg z] at hv
      by_cases y : F (8 * a + b) = 0
      · rw [if_pos y] at hv
        exact absurd hv (by simp)
      · rw [if_neg y] at hv
        have := Option.some.inj hv
        omega
  · rw [g a b ha hb, if_neg hab, if_pos]
    rcases hp with hp | hp
    · exact hz a b ha hb hp
    · rw [hs a b ha hb]
      exact hz b a hb ha hp
theorem fwI_all {P : Nat} {w : Nat → Option Nat} (h : fwI P 0 w) : ∀ n, n ≤ 8 → fwI P n (fw w n)
  | 0, _ => h
  | n + 1, hn => fwI_step (by omega) (fwI_all h n (by omega))
theorem fw_end {P : Nat} {w : Nat → Option Nat} (h : fwI P 0 w) {a b : Nat} (ha : a < P) (hb : b < P) (hP : P ≤ 8) : ∀ d, P + d ≤ 8 → fw w (P + d) (8 * a + b) = fw w P (8 * a + b)
  | 0, _ => rfl
  | d + 1, hd => by
    have I := fwI_all h (P + d) (by omega)
    rw [show P + (d + 1) = (P + d) + 1 by omega, fw, ph_get _ _ (by omega), I.2.2.2.2.2 a (P + d) (by omega) (by omega) (by omega) (by omega)]
    exact fw_end h ha hb hP d (by omega)
theorem wOk_of {P : Nat} {w : Nat → Option Nat} (h : fwI P 8 w) (hP : P ≤ 8) : wOk P w := ⟨fun a ha => h.1 a (by omega), fun a b v ha hb => h.2.1 a b v (by omega) (by omega), fun a b ha hb => h.2.2.1 a b (by omega) (by omega), fun a b c u v ha hb hc => h.2.2.2.1 b a c u v (by omega) (by omega) (by omega) (by omega), fun a b v ha hb hv => by have := h.2.2.2.2.1 a b v (by omega) (by omega) hv; omega⟩
/-- one place taken in, up to an index -/
def mxx (w : Nat → Option Nat) (by' K : Nat) : Nat → Option Nat := fun k => if k < K then ph by' w k else w k
theorem mxx_col {P n : Nat} {w : Nat → Option Nat} (h : fwI P n w) {by' a K : Nat} (hb : by' < 8) : mxx w by' K (8 * a + by') = w (8 * a + by') := by
  unfold mxx
  split
  · rw [ph_get _ w hb, h.1 by' hb]
    cases w (8 * a + by') with
    | none => rfl
    | some u =>
      show (if u + 0 < u then some (u + 0) else some u) = some u
      rw [if_neg (by omega)]
  · rfl
theorem mxx_row {P n : Nat} {w : Nat → Option Nat} (h : fwI P n w) {by' c K : Nat} (hb : by' < 8) (hc : c < 8) : mxx w by' K (8 * by' + c) = w (8 * by' + c) := by
  unfold mxx
  split
  · rw [ph_get _ w hc, h.1 by' hb]
    cases w (8 * by' + c) with
    | none => rfl
    | some u =>
      show (if 0 + u < u then some (0 + u) else some u) = some u
      rw [if_neg (by omega)]
  · rfl
theorem wI_relax {s : Nat} {x y z : Option Nat} (hs : 1 ≤ s) (hs9 : s ≤ 9) (hx : ∀ v, x = some v → v ≤ 2304) (hy : ∀ v, y = some v → v ≤ 2304) (hz : ∀ v, z = some v → v ≤ 2304) : (if wI s x + wI s y < wI s z then wI s x + wI s y else wI s z) = wI s (om z (oa x y)) := by
  have bd : ∀ v, v ≤ 2304 → s * v ≤ 9 * 2304 := fun v hv => Nat.mul_le_mul hs9 hv
  have zle : ∀ t, 1000000 ≤ t → t < 2 ^ 31 → ¬ nI t < wI s z := fun t h1 h2 => by
    cases z with
    | none => exact nI_nlt h1 h2
    | some v =>
      have := bd v (hz v rfl)
      exact nI_nlt (by omega) h2
  cases x with
  | none =>
    have e : wI s none + wI s y = nI (1000000 + (match y with | none => 1000000 | some v => s * v)) := by
      cases y with
      | none => exact nI_add _ _
      | some v => exact nI_add _ _
    rw [e, if_neg (zle _ (by omega) (by
      cases y with
      | none => show 1000000 + 1000000 < 2 ^ 31; omega
      | some v => have := bd v (hy v rfl); show 1000000 + s * v < 2 ^ 31; omega))]
    rfl
  | some u =>
    have bu := bd u (hx u rfl)
    cases y with
    | none =>
      have e : wI s (some u) + wI s none = nI (s * u + 1000000) := nI_add _ _
      rw [e, if_neg (zle _ (by omega) (by omega))]
      rfl
    | some v =>
      have bv := bd v (hy v rfl)
      have e : wI s (some u) + wI s (some v) = nI (s * (u + v)) := by
        rw [wI_some, wI_some, nI_add, Nat.mul_add]
      have e2 : s * (u + v) = s * u + s * v := Nat.mul_add _ _ _
      rw [e]
      cases z with
      | none =>
        rw [wI_none, if_pos (nI_lt (by omega) (by omega))]
        rfl
      | some t =>
        have bt := bd t (hz t rfl)
        rw [wI_some]
        show _ = wI s (if u + v < t then some (u + v) else some t)
        by_cases q : u + v < t
        · have q2 : s * (u + v) < s * t := Nat.mul_lt_mul_of_pos_left q (by omega)
          rw [if_pos (nI_lt q2 (by omega)), if_pos q, wI_some]
        · have q2 : s * t ≤ s * (u + v) := Nat.mul_le_mul_left _ (by omega)
          rw [if_neg (nI_nlt q2 (by omega)), if_neg q, wI_some]
