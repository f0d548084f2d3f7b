/-! worst -/
def fo {σ : Type} (f : Nat → σ → σ) : Nat → Nat → σ → σ
  | 0, _, s => s
  | c + 1, a, s => fo f c (a + 1) (f a s)
theorem fo_add {σ : Type} (f : Nat → σ → σ) (d : Nat) : ∀ c a s, fo f (c + d) a s = fo f d (a + c) (fo f c a s)
  | 0, a, s => by rw [Nat.zero_add, Nat.add_zero, fo]
  | c + 1, a, s => by
    rw [show c + 1 + d = (c + d) + 1 by omega, fo, fo_add f d c, fo, show a + (c + 1) = a + 1 + c by omega]
theorem fo_cg {σ : Type} {f g : Nat → σ → σ} : ∀ c a s, (∀ p s, a ≤ p → p < a + c → f p s = g p s) → fo f c a s = fo g c a s
  | 0, _, _, _ => rfl
  | c + 1, a, s, h => by
    rw [fo, fo, h a s (by omega) (by omega)]
    exact fo_cg c (a + 1) _ (fun p s h1 h2 => h p s (by omega) (by omega))
theorem fo_id {σ : Type} {f : Nat → σ → σ} : ∀ c a s, (∀ p s, a ≤ p → p < a + c → f p s = s) → fo f c a s = s
  | 0, _, _, _ => rfl
  | c + 1, a, s, h => by
    rw [fo, h a s (by omega) (by omega)]
    exact fo_id c (a + 1) _ (fun p s h1 h2 => h p s (by omega) (by omega))
theorem fo_blk {σ : Type} (f : Nat → σ → σ) (n a : Nat) : ∀ e d s, fo f (e * n) (a + d * n) s = fo (fun d s => fo f n (a + d * n) s) e d s
  | 0, d, s => by rw [Nat.zero_mul, fo, fo]
  | e + 1, d, s => by
    rw [show (e + 1) * n = n + e * n by rw [Nat.succ_mul]; omega, fo_add, fo, show a + d * n + n = a + (d + 1) * n by rw [Nat.succ_mul]; omega]
    exact fo_blk f n a e (d + 1) _
def mt (l : aL) (c : Nat → Nat) : Nat → Nat
  | 0 => 0
  | i + 1 => mt l c i + lF l (8 * c i + c (i + 1)) + i * lT l
def fg (c : Nat → Nat) : Nat → Nat
  | 0 => 0
  | i + 1 => fg c i * 10 + c i + 1
noncomputable def fwn (G : Nat → Nat → Bool) (K : Nat) : Nat := Classical.choose (fw_ex G K)
theorem fwn_ok (G : Nat → Nat → Bool) (K : Nat) : ∃ w', isFw G K (fwn G K) w' := Classical.choose_spec (fw_ex G K)
noncomputable def wgh (l : aL) (K : Nat) (c : Nat → Nat) (st : Option (Nat × Nat)) : Option (Nat × Nat) := match st with
  | none => some (fwn (can (lW l) (lS l) c (mt l c)) K, fg c K)
  | some (a, b) => if a < fwn (can (lW l) (lS l) c (mt l c)) K then some (fwn (can (lW l) (lS l) c (mt l c)) K, fg c K) else some (a, b)
noncomputable def dfs (l : aL) (K : Nat) : Nat → Nat → (Nat → Nat) → Option (Nat × Nat) → Option (Nat × Nat)
  | 0, _, c, st => wgh l K c st
  | n + 1, i, c, st => fo (fun d st => if lF l (8 * c (i - 1) + d) = 0 then st else dfs l K n (i + 1) (up1 c i d) st) (lP l) 0 st
def lay (l : aL) (code : Nat) : Nat → Nat → (Nat → Nat) → Option (Nat → Nat)
  | 0, _, c => some c
  | n + 1, i, c => if code / 8 ^ n % 8 < lP l ∧ lF l (8 * c (i - 1) + code / 8 ^ n % 8) ≠ 0 then lay l code n (i + 1) (up1 c i (code / 8 ^ n % 8)) else none
noncomputable def wr (l : aL) (K n i : Nat) (c : Nat → Nat) (code : Nat) (st : Option (Nat × Nat)) : Option (Nat × Nat) := match lay l code n i c with
  | some c' => wgh l K c' st
  | none => st
theorem wr_dfs (l : aL) (h8 : lP l ≤ 8) (K : Nat) : ∀ n i c q st, fo (wr l K n i c) (8 ^ n) (q * 8 ^ n) st = dfs l K n i c st := by
  intro n
  induction n with
  | zero =>
    intro i c q st
    rw [Nat.pow_zero, fo, fo, wr, lay, dfs]
  | succ n ih =>
    intro i c q st
    have hp : 0 < 8 ^ n := Nat.pow_pos (by omega)
    have b := fo_blk (wr l K (n + 1) i c) (8 ^ n) (q * 8 ^ (n + 1)) 8 0 st
    rw [show 8 * 8 ^ n = 8 ^ (n + 1) by rw [Nat.pow_succ, Nat.mul_comm], show q * 8 ^ (n + 1) + 0 * 8 ^ n = q * 8 ^ (n + 1) by omega] at b
    rw [b, dfs]
    have dig : ∀ d p, d < 8 → q * 8 ^ (n + 1) + d * 8 ^ n ≤ p → p < q * 8 ^ (n + 1) + d * 8 ^ n + 8 ^ n → p / 8 ^ n % 8 = d := by
      intro d p hd h1 h2
      have e : q * 8 ^ (n + 1) + d * 8 ^ n = (8 * q + d) * 8 ^ n := by
        rw [Nat.pow_succ, Nat.add_mul, ← Nat.mul_assoc, Nat.mul_comm (q * 8 ^ n) 8, Nat.mul_assoc]
      rw [e] at h1 h2
      have e2 : p / 8 ^ n = 8 * q + d := by
        apply Nat.div_eq_of_lt_le h1
        rw [Nat.succ_mul]
        exact h2
      rw [e2]
      omega
    have blk : ∀ d st, d < 8 → fo (wr l K (n + 1) i c) (8 ^ n) (q * 8 ^ (n + 1) + d * 8 ^ n) st = if d < lP l ∧ lF l (8 * c (i - 1) + d) ≠ 0 then dfs l K n (i + 1) (up1 c i d) st else st := by
      intro d st hd
      by_cases e : d < lP l ∧ lF l (8 * c (i - 1) + d) ≠ 0
      · rw [if_pos e, ← ih (i + 1) (up1 c i d) (8 * q + d) st]
        have e3 : q * 8 ^ (n + 1) + d * 8 ^ n = (8 * q + d) * 8 ^ n := by
          rw [Nat.pow_succ, Nat.add_mul, ← Nat.mul_assoc, Nat.mul_comm (q * 8 ^ n) 8, Nat.mul_assoc]
        rw [← e3]
        apply fo_cg
        intro p s h1 h2
        rw [wr, lay, dig d p hd h1 h2, if_pos e, wr]
      · rw [if_neg e]
        apply fo_id
        intro p s h1 h2
        rw [wr, lay, dig d p hd h1 h2, if_neg e]
    obtain ⟨g, hg⟩ : ∃ g : Nat → Option (Nat × Nat) → Option (Nat × Nat), g = fun d st => if d < lP l ∧ lF l (8 * c (i - 1) + d) ≠ 0 then dfs l K n (i + 1) (up1 c i d) st else st := ⟨_, rfl⟩
    have g1 : ∀ d st, g d st = if d < lP l ∧ lF l (8 * c (i - 1) + d) ≠ 0 then dfs l K n (i + 1) (up1 c i d) st else st := fun d st => by rw [hg]
    have sp : fo g 8 0 st = fo g (8 - lP l) (0 + lP l) (fo g (lP l) 0 st) := by rw [← fo_add, show lP l + (8 - lP l) = 8 by omega]
    rw [fo_cg (g := g) 8 0 st (fun d s _ h2 => by rw [g1]; exact blk d s (by omega)), sp, fo_id (f := g) (8 - lP l)]
    · apply fo_cg
      intro d s h1 h2
      rw [g1]
      by_cases e : lF l (8 * c (i - 1) + d) = 0
      · rw [if_pos e, if_neg (fun z => z.2 e)]
      · rw [if_neg e, if_pos ⟨by omega, e⟩]
    · intro d s h1 h2
      rw [g1, if_neg (fun z => by omega)]
