/-! what the two objects hold, in one mathematical state -/
/-- a land: places, hedgehogs, points, slow, tired, rubs; furrows, sights, marks, course, ways (without SLOW) -/
abbrev aL : Type := (Nat × Nat × Nat × Nat × Nat × Nat) × (Nat → Nat) × (Nat → Nat) × (Nat → Nat) × (Nat → Nat) × (Nat → Option Nat)
def lP (l : aL) : Nat := l.1.1
def lH (l : aL) : Nat := l.1.2.1
def lK (l : aL) : Nat := l.1.2.2.1
def lS (l : aL) : Nat := l.1.2.2.2.1
def lT (l : aL) : Nat := l.1.2.2.2.2.1
def lR (l : aL) : Nat := l.1.2.2.2.2.2
def lF (l : aL) : Nat → Nat := l.2.1
def lV (l : aL) : Nat → Nat := l.2.2.1
def lM (l : aL) : Nat → Nat := l.2.2.2.1
def lC (l : aL) : Nat → Nat := l.2.2.2.2.1
def lW (l : aL) : Nat → Option Nat := l.2.2.2.2.2
/-- ways as they must be -/
def wOk (P : Nat) (w : Nat → Option Nat) : Prop := (∀ a, a < P → w (8 * a + a) = some 0) ∧ (∀ a b v, a < P → b < P → a ≠ b → w (8 * a + b) = some v → 0 < v) ∧ (∀ a b, a < P → b < P → w (8 * a + b) = w (8 * b + a)) ∧ (∀ a b c u v, a < P → b < P → c < P → w (8 * a + b) = some u → w (8 * b + c) = some v → ∃ t, w (8 * a + c) = some t ∧ t ≤ u + v) ∧ (∀ a b v, a < P → b < P → w (8 * a + b) = some v → v ≤ 2304)
def aLok (l : aL) : Prop := (2 ≤ lP l ∧ lP l ≤ 8) ∧ lH l ≤ 5 ∧ lK l ≤ 8 ∧ (1 ≤ lS l ∧ lS l ≤ 9) ∧ lT l ≤ 3 ∧ lR l ≤ 99 ∧ (∀ k, k < 64 → lF l k ≤ 9) ∧ (∀ k, k < 8 → lV l k < 256) ∧ (∀ h, h < lH l → lM l h ≤ 15) ∧ (∀ i, i < lK l → lC l i < lP l) ∧ wOk (lP l) (lW l)
/-- the class's way: SLOW times, or FAR -/
def wI (s : Nat) (o : Option Nat) : Int32 := match o with
  | none => nI 1000000
  | some v => nI (s * v)
theorem oI_none : oI none = Int32.ofInt (-9) := rfl
theorem oI_some (v : Nat) : oI (some v) = nI v := rfl
theorem wI_none (s : Nat) : wI s none = nI 1000000 := rfl
theorem wI_some (s v : Nat) : wI s (some v) = nI (s * v) := rfl
def LCl (l : aL) (m : Nat → Nat → Int32) : Prop := m 9 0 = nI (lP l) ∧ m 9 1 = nI (lH l) ∧ m 9 2 = nI (lK l) ∧ m 9 3 = nI (lS l) ∧ m 9 4 = nI (lT l) ∧ m 9 5 = nI (lR l) ∧ (∀ k, k < 64 → m 10 k = nI (lF l k)) ∧ (∀ a b, a < lP l → b < lP l → m 11 (8 * a + b) = wI (lS l) (lW l (8 * a + b))) ∧ (∀ k, k < 8 → m 12 k = nI (lV l k)) ∧ (∀ h, h < lH l → m 13 h = nI (lM l h)) ∧ (∀ i, i < lK l → m 14 i = nI (lC l i))
def LMo (l : aL) (n : Nat → Nat → Int32) : Prop := n 58 0 = nI (lP l) ∧ n 58 1 = nI (lH l) ∧ n 58 2 = nI (lK l) ∧ n 58 3 = nI (lS l) ∧ n 58 4 = nI (lT l) ∧ n 58 5 = nI (lR l) ∧ (∀ k, k < 64 → n 58 (21 + k) = nI (lF l k)) ∧ (∀ a b, a < lP l → b < lP l → n 64 (8 * a + b) = oI (lW l (8 * a + b))) ∧ (∀ k, k < 8 → n 58 (85 + k) = nI (lV l k)) ∧ (∀ h, h < lH l → n 58 (8 + h) = nI (lM l h)) ∧ (∀ i, i < lK l → n 58 (13 + i) = nI (lC l i))
/-- now: how many sits; sitter, place, from, to; waits; seen -/
abbrev aN : Type := Nat × (Nat → Nat) × (Nat → Nat) × (Nat → Nat) × (Nat → Nat) × (Nat → Nat) × (Nat → Option Nat)
def xC (x : aN) : Nat := x.1
def xH (x : aN) : Nat → Nat := x.2.1
def xP (x : aN) : Nat → Nat := x.2.2.1
def xF (x : aN) : Nat → Nat := x.2.2.2.1
def xT (x : aN) : Nat → Nat := x.2.2.2.2.1
def xW (x : aN) : Nat → Nat := x.2.2.2.2.2.1
def xS (x : aN) : Nat → Option Nat := x.2.2.2.2.2.2
def aNok (l : aL) (x : aN) : Prop := xC x ≤ 12 ∧ (∀ i, i < xC x → xH x i < lH l ∧ xP x i < lP l ∧ xF x i ≤ xT x i ∧ xT x i ≤ 999) ∧ (∀ i, i < 8 → xW x i ≤ 20) ∧ (∀ i v, i < 8 → xS x i = some v → v ≤ 15)
def NCl (k : Nat) (x : aN) (m : Nat → Nat → Int32) : Prop := m k 1 = nI (xC x) ∧ (∀ i, i < xC x → m (k + 1) i = nI (xH x i) ∧ m (k + 2) i = nI (xP x i) ∧ m (k + 3) i = nI (xF x i) ∧ m (k + 4) i = nI (xT x i)) ∧ (∀ i, i < 8 → m (k + 5) i = nI (xW x i)) ∧ (∀ i, i < 8 → m (k + 6) i = oI (xS x i))
/-- sits and waits in a row of the reference -/
def NMs (c o : Nat) (x : aN) (n : Nat → Nat → Int32) : Prop := n c o = nI (xC x) ∧ (∀ i, i < xC x → n c (o + (1 + i)) = nI (xH x i) ∧ n c (o + (13 + i)) = nI (xP x i) ∧ n c (o + (25 + i)) = nI (xF x i) ∧ n c (o + (37 + i)) = nI (xT x i)) ∧ (∀ i, i < 8 → n c (o + (49 + i)) = nI (xW x i))
def NMo (c o : Nat) (x : aN) (n : Nat → Nat → Int32) : Prop := NMs c o x n ∧ (∀ i, i < 8 → n c (o + (57 + i)) = oI (xS x i))
/-- when the hare comes -/
def cm (l : aL) (x : aN) : Nat → Nat
  | 0 => 0
  | i + 1 => cm l x i + xW x i + lF l (8 * lC l i + lC l (i + 1)) + i * lT l
/-- whether one can go from a point to a later one in time: ways, SLOW, places, minutes -/
def can (w : Nat → Option Nat) (s : Nat) (c t : Nat → Nat) (i j : Nat) : Bool := match w (8 * c i + c j) with
  | some v => decide (s * v + t i ≤ t j)
  | none => false
/-- the points from which one comes in time, as bits -/
def rb (f : Nat → Bool) : Nat → Nat
  | 0 => 0
  | i + 1 => rb f i + (if f i then 2 ^ i else 0)
def cg (l : aL) (x : aN) (i j : Nat) : Bool := can (lW l) (lS l) (lC l) (cm l x) i j
def rText (len : Nat) (tx : Nat → Nat) (m n : Nat → Nat → Int32) : Prop := m 1 1 = nI len ∧ n 56 2 = nI len ∧ len ≤ 200 ∧ ∀ i, i < len → m 2 i = nI (tx i) ∧ n 57 i = nI (tx i) ∧ tx i < 256
def rRun (l : aL) (x : aN) (m : Nat → Nat → Int32) : Prop := m 39 0 = nI (lK l) ∧ ∀ i, i < lK l → m 40 i = nI (lC l i) ∧ m 41 i = nI (cm l x i) ∧ m 42 i = nI (rb (fun j => cg l x j i) i)
/-- sits and waits alike -/
def aEq (x y : aN) : Prop := xC x = xC y ∧ (∀ i, i < xC x → xH x i = xH y i ∧ xP x i = xP y i ∧ xF x i = xF y i ∧ xT x i = xT y i) ∧ ∀ i, i < 8 → xW x i = xW y i
/-- one step that can be undone: what the class notes of it -/
def hStep (x y : aN) (pt fw : Int32) : Prop := (pt = Int32.ofInt (-1) ∧ xC y = xC x + 1 ∧ (∀ i, i < xC x → xH x i = xH y i ∧ xP x i = xP y i ∧ xF x i = xF y i ∧ xT x i = xT y i) ∧ ∀ i, i < 8 → xW x i = xW y i) ∨ (∃ i, i < 8 ∧ pt = nI i ∧ fw = nI (xW x i) ∧ xC y = xC x ∧ (∀ j, j < xC x → xH x j = xH y j ∧ xP x j = xP y j ∧ xF x j = xF y j ∧ xT x j = xT y j) ∧ ∀ j, j < 8 → j ≠ i → xW x j = xW y j)
def rHist (l : aL) (x : aN) (hz : Nat) (hs : Nat → aN) (m n : Nat → Nat → Int32) : Prop := hz ≤ 12 ∧ m 36 0 = nI hz ∧ n 56 7 = nI hz ∧ aEq (hs hz) x ∧ ∀ j, j < hz → aNok l (hs j) ∧ NMs 61 (57 * j) (hs j) n ∧ hStep (hs j) (hs (j + 1)) (m 37 j) (m 38 j)
/-- an image: kept or not -/
def rImg (l : aL) (k i : Nat) (y : aN) (m n : Nat → Nat → Int32) : Prop := (m k 0 = 0 ∧ n 63 i = 0) ∨ (m k 0 = 1 ∧ n 63 i = 1 ∧ aNok l y ∧ NCl k y m ∧ NMo 62 (65 * i) y n)
def rAll (l : aL) (x : aN) (hz : Nat) (hs : Nat → aN) (y1 y2 : aN) (len : Nat) (tx : Nat → Nat) (m n : Nat → Nat → Int32) : Prop := rText len tx m n ∧ (aLok l ∧ LCl l m ∧ LMo l n) ∧ (aNok l x ∧ NCl 15 x m ∧ NMo 60 0 x n) ∧ rRun l x m ∧ rHist l x hz hs m n ∧ rImg l 22 0 y1 m n ∧ rImg l 29 1 y2 m n
def rR (m n : Nat → Nat → Int32) : Prop := ∃ (l : aL) (x : aN) (hz : Nat) (hs : Nat → aN) (y1 y2 : aN) (len : Nat) (tx : Nat → Nat), rAll l x hz hs y1 y2 len tx m n
/-- rows that stay -/
def eqr (m m' : Nat → Nat → Int32) (lo hi : Nat) : Prop := ∀ k, lo ≤ k → k ≤ hi → m' k = m k
theorem q_w_row (m : Nat → Nat → Int32) {k k' : Nat} (j : Nat) (x : Int32) (h : k' ≠ k) : q_w m k j x k' = m k' := by unfold q_w va_up; rw [if_neg h]
theorem q_cw_row (m : Nat → Nat → Int32) {k0 k1 k' : Nat} (sp dp c : Nat) (h : k' ≠ k1) : q_cw m k0 k1 sp dp c k' = m k' := by unfold q_cw va_up; rw [if_neg h]
theorem eqr.trans {m m1 m2 : Nat → Nat → Int32} {lo hi : Nat} (h1 : eqr m m1 lo hi) (h2 : eqr m1 m2 lo hi) : eqr m m2 lo hi := fun k a b => (h2 k a b).trans (h1 k a b)
theorem eqr.w {m m1 : Nat → Nat → Int32} {lo hi k j : Nat} {x : Int32} (h1 : eqr m m1 lo hi) (hk : k < lo ∨ hi < k) : eqr m (q_w m1 k j x) lo hi := fun k' a b => by rw [q_w_row _ _ _ (by omega)]; exact h1 k' a b
theorem eqr.cw {m m1 : Nat → Nat → Int32} {lo hi k0 k1 sp dp c : Nat} (h1 : eqr m m1 lo hi) (hk : k1 < lo ∨ hi < k1) : eqr m (q_cw m1 k0 k1 sp dp c) lo hi := fun k' a b => by rw [q_cw_row _ _ _ _ (by omega)]; exact h1 k' a b
theorem eqr.rf (m : Nat → Nat → Int32) (lo hi : Nat) : eqr m m lo hi := fun _ _ _ => rfl
theorem eqr.sub {m m1 : Nat → Nat → Int32} {lo hi lo' hi' : Nat} (h : eqr m m1 lo hi) (h1 : lo ≤ lo') (h2 : hi' ≤ hi) : eqr m m1 lo' hi' := fun k a b => h k (by omega) (by omega)
theorem LCl.of {l : aL} {m m' : Nat → Nat → Int32} (h : LCl l m) (e : eqr m m' 9 14) : LCl l m' := by
  unfold LCl at h ⊢
  rw [e 9 (by omega) (by omega), e 10 (by omega) (by omega), e 11 (by omega) (by omega), e 12 (by omega) (by omega), e 13 (by omega) (by omega), e 14 (by omega) (by omega)]
  exact h
theorem NCl.of {k : Nat} {x : aN} {m m' : Nat → Nat → Int32} (h : NCl k x m) (e : eqr m m' k (k + 6)) : NCl k x m' := by
  unfold NCl at h ⊢
  rw [e k (by omega) (by omega), e (k + 1) (by omega) (by omega), e (k + 2) (by omega) (by omega), e (k + 3) (by omega) (by omega), e (k + 4) (by omega) (by omega), e (k + 5) (by omega) (by omega), e (k + 6) (by omega) (by omega)]
  exact h
theorem rRun.of {l : aL} {x : aN} {m m' : Nat → Nat → Int32} (h : rRun l x m) (e : eqr m m' 39 42) : rRun l x m' := by
  unfold rRun at h ⊢
  rw [e 39 (by omega) (by omega), e 40 (by omega) (by omega), e 41 (by omega) (by omega), e 42 (by omega) (by omega)]
  exact h
theorem LMo.of {l : aL} {n n' : Nat → Nat → Int32} (h : LMo l n) (e1 : n' 58 = n 58) (e2 : n' 64 = n 64) : LMo l n' := by
  unfold LMo at h ⊢
  rw [e1, e2]
  exact h
theorem NMs.of {c o : Nat} {x : aN} {n n' : Nat → Nat → Int32} (h : NMs c o x n) (e : n' c = n c) : NMs c o x n' := by
  unfold NMs at h ⊢
  rw [e]
  exact h
theorem NMo.of {c o : Nat} {x : aN} {n n' : Nat → Nat → Int32} (h : NMo c o x n) (e : n' c = n c) : NMo c o x n' := by
  unfold NMo at h ⊢
  rw [e]
  exact ⟨h.1.of e, h.2⟩
theorem rHist.of {l : aL} {x : aN} {hz : Nat} {hs : Nat → aN} {m m' n n' : Nat → Nat → Int32} (h : rHist l x hz hs m n) (e : eqr m m' 36 38) (e1 : n' 56 7 = n 56 7) (e2 : n' 61 = n 61) : rHist l x hz hs m' n' := by
  unfold rHist at h ⊢
  rw [e 36 (by omega) (by omega), e 37 (by omega) (by omega), e 38 (by omega) (by omega), e1]
  exact ⟨h.1, h.2.1, h.2.2.1, h.2.2.2.1, fun j hj => ⟨(h.2.2.2.2 j hj).1, (h.2.2.2.2 j hj).2.1.of e2, (h.2.2.2.2 j hj).2.2⟩⟩
theorem rImg.of {l : aL} {k i : Nat} {y : aN} {m m' n n' : Nat → Nat → Int32} (h : rImg l k i y m n) (e : eqr m m' k (k + 6)) (e1 : n' 63 i = n 63 i) (e2 : n' 62 = n 62) : rImg l k i y m' n' := by
  unfold rImg at h ⊢
  rw [e1, e k (by omega) (by omega)]
  rcases h with h | h
  · exact Or.inl h
  · exact Or.inr ⟨h.1, h.2.1, h.2.2.1, h.2.2.2.1.of e, h.2.2.2.2.of e2⟩
theorem rText.of {len : Nat} {tx : Nat → Nat} {m m' n n' : Nat → Nat → Int32} (h : rText len tx m n) (e : m' 1 1 = m 1 1) (e1 : m' 2 = m 2) (e2 : n' 56 2 = n 56 2) (e3 : n' 57 = n 57) : rText len tx m' n' := by
  unfold rText at h ⊢
  rw [e, e1, e2, e3]
  exact h
