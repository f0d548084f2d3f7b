/-! fits, sure: the reference -/
def cbl (R t : Nat) (X : Int32) : Nat → Nat → Bool
  | 0, _ => true
  | d + 1, b => (decide ((X >>> (nI b &&& 31)) &&& 1 = 0) || (decide (0 < R) && decide (R * (b + 1) ≤ t))) && cbl R t X d (b + 1)
def cbB (l : aL) (x : aN) (h i : Nat) : Bool := match xS x i with
  | none => true
  | some v => decide (nI v &&& (nI (lM l h) ^^^ Int32.ofInt (-1)) = 0) && cbl (lR l) (cm l x i) (nI (lM l h) &&& (nI v ^^^ Int32.ofInt (-1))) 4 0
theorem lt00 : ¬ (0 : Int32) < 0 := by decide
theorem lt10 : ¬ (1 : Int32) < 0 := by decide
theorem lt11 : ¬ (1 : Int32) < 1 := by decide
theorem lt01 : (0 : Int32) < 1 := by decide
theorem cbl_0 {R t : Nat} {X : Int32} {d b : Nat} (h : (X >>> (nI b &&& 31)) &&& 1 = 0) : cbl R t X (d + 1) b = cbl R t X d (b + 1) := by
  rw [cbl, h]
  rfl
theorem cbl_1 {R t : Nat} {X : Int32} {d b : Nat} (h : (X >>> (nI b &&& 31)) &&& 1 = 1) : cbl R t X (d + 1) b = ((decide (0 < R) && decide (R * (b + 1) ≤ t)) && cbl R t X d (b + 1)) := by
  rw [cbl, h]
  rfl
theorem canBe49 {m : Nat → Nat → Int32} {i R t : Nat} (x3 x4 : Int32) (hi : i < 8) (hR : R ≤ 99) (ht : t < 2 ^ 20) (h5 : m 58 5 = nI R) (h66 : m 66 i = nI t) : ∀ (d b fu : Nat), b + d = 4 → d < fu → FL_Mo_canBe_49 fu m (nI i) x3 x4 0 (nI b) = some 0 ∧ FL_Mo_canBe_49 fu m (nI i) x3 x4 1 (nI b) = some (if cbl R t (x3 &&& (x4 ^^^ Int32.ofInt (-1))) d b = true then 1 else 0) := by
  intro d
  induction d with
  | zero =>
    intro b fu e1 e2
    obtain ⟨fu, rfl⟩ : ∃ f, fu = f + 1 := ⟨fu - 1, by omega⟩
    obtain rfl : b = 4 := by omega
    rw [FL_Mo_canBe_49, FL_Mo_canBe_49, if_pos (by decide), if_pos (by decide), cbl, if_pos rfl]
    exact ⟨rfl, rfl⟩
  | succ d ih =>
    intro b fu e1 e2
    obtain ⟨fu, rfl⟩ : ∃ f, fu = f + 1 := ⟨fu - 1, by omega⟩
    have g4 : ¬ (4 : Int32) ≤ nI b := (nI_ge (by omega) (by omega) : ¬ nI 4 ≤ nI b)
    obtain ⟨ihF, ihT⟩ := ih (b + 1) fu (by omega) (by omega)
    rw [FL_Mo_canBe_49, FL_Mo_canBe_49, if_neg g4, if_neg g4, h5, nI_1, q_in_nI (j := i) (by omega) (by omega), nI_clamp (n := i) (by omega), h66, pk_mul]
    have hb99 : R * (b + 1) ≤ 99 * 4 := Nat.mul_le_mul hR (by omega)
    refine ⟨by simp only [cond_true, ihF, if_true, ite_self], ?_⟩
    simp only [cond_true, ihF, ihT, ne1, if_false]
    rcases and1 ((x3 &&& (x4 ^^^ Int32.ofInt (-1))) >>> (nI b &&& 31)) with hb | hb
    · rw [cbl_0 hb, hb]
      simp only [lt00, lt10, if_false, ite_self]
    · rw [cbl_1 hb, hb]
      simp only [lt01, lt11, if_true, if_false]
      by_cases z : R = 0
      · rw [if_pos (by rw [z]; decide), if_neg (by simp [z])]
      · rw [if_neg (nI_nle (by omega) (by omega))]
        by_cases y : t < R * (b + 1)
        · rw [if_pos (nI_lt y (by omega)), if_neg (by
            have : ¬ R * (b + 1) ≤ t := by omega
            simp [this])]
        · rw [if_neg (nI_nlt (by omega) (by omega))]
          have y1 : decide (0 < R) = true := by simp; omega
          have y2 : decide (R * (b + 1) ≤ t) = true := by simp; omega
          rw [y1, y2, Bool.true_and, Bool.true_and]
/-- the reference when it looks for ways -/
def gInv (l : aL) (x : aN) (n : Nat → Nat → Int32) : Prop := fInv l (lK l) (lC l) (cm l x) n ∧ aNok l x ∧ NMo 60 0 x n
theorem gInv.fr {l : aL} {x : aN} {n n' : Nat → Nat → Int32} (h : gInv l x n) (e : ∀ k, k < 67 → n' k = n k) : gInv l x n' := by
  obtain ⟨h1, h2, h3⟩ := h
  refine ⟨?_, h2, h3.of (e _ (by omega))⟩
  unfold fInv at h1 ⊢
  rw [e 56 (by omega), e 65 (by omega), e 66 (by omega)]
  exact ⟨h1.1, h1.2.1.of (e _ (by omega)) (e _ (by omega)), h1.2.2⟩
theorem canBe_ok {l : aL} {x : aN} {n : Nat → Nat → Int32} (hg : gInv l x n) {h i : Nat} (hh : h < lH l) (hi : i < lK l) : F_Mo_canBe n (nI h) (nI i) = some (if cbB l x h i = true then 1 else 0) := by
  obtain ⟨hI, hx, hn⟩ := hg
  have hfu := qFU_big
  have h5 := hI.1.2.1
  have h8 := hI.1.2.2.1
  have r5 := hI.2.1.2.2.2.2.2.1
  have mh := hI.2.1.2.2.2.2.2.2.2.2.2.1 h hh
  have sn := hn.2 i (by omega)
  rw [Nat.zero_add] at sn
  unfold F_Mo_canBe
  rw [i_8, i_57, nI_add, nI_add, q_in_nI (j := 8 + h) (by omega) (by omega), q_in_nI (j := 57 + i) (by omega) (by omega), nI_clamp (n := 8 + h) (by omega), nI_clamp (n := 57 + i) (by omega), mh, sn, cond_true, cond_true]
  cases hs : xS x i with
  | none =>
    have e : cbB l x h i = true := by unfold cbB; rw [hs]
    rw [oI_none, if_pos rfl, e]
    rfl
  | some v =>
    have v15 := hx.2.2.2 i v (by omega) hs
    have e0 : cbB l x h i = (decide (nI v &&& (nI (lM l h) ^^^ Int32.ofInt (-1)) = 0) && cbl (lR l) (cm l x i) (nI (lM l h) &&& (nI v ^^^ Int32.ofInt (-1))) 4 0) := by unfold cbB; rw [hs]
    rw [oI_some, if_neg (nI_neg9 (by omega))]
    obtain ⟨c0, c1⟩ := canBe49 (m := n) (i := i) (R := lR l) (t := cm l x i) (nI (lM l h)) (nI v) (by omega) hI.1.2.2.2.2.2.1 (hI.2.2.2.2.2.2.2 i hi) r5 (hI.2.2.2.2.1 i hi).2 4 0 qFU (by omega) (by omega)
    by_cases z : nI v &&& (nI (lM l h) ^^^ Int32.ofInt (-1)) = 0
    · rw [decide_eq_true z, Bool.true_and] at e0
      rw [if_pos z, show FL_Mo_canBe_49 qFU n (nI i) (nI (lM l h)) (nI v) 1 0 = _ from c1, Option.bind_some, e0]
      by_cases y : cbl (lR l) (cm l x i) (nI (lM l h) &&& (nI v ^^^ Int32.ofInt (-1))) 4 0 = true
      · rw [if_pos y, q_bl1]
        rfl
      · rw [if_neg y, q_bl0]
        rfl
    · rw [decide_eq_false z, Bool.false_and] at e0
      rw [if_neg z, show FL_Mo_canBe_49 qFU n (nI i) (nI (lM l h)) (nI v) 0 0 = _ from c0, Option.bind_some, e0, if_neg (by decide), q_bl0]
      rfl
theorem isThere5 {n : Nat → Nat → Int32} {w : Nat → Nat} {i h : Nat} (hi : i < 8) (hn : ∀ k, k < i → n 67 k = nI (w k) ∧ w k < 5) (hh : n 67 i = nI h) (h9 : h < 9) : ∀ d k fu, k + d = i → d < fu → FL_Mo_isThere_5 fu n (nI i) (oI (la w h k)) (nI k) = some (oI (la w h i)) := by
  intro d
  induction d with
  | zero =>
    intro k fu e1 e2
    obtain ⟨fu, rfl⟩ : ∃ f, fu = f + 1 := ⟨fu - 1, by omega⟩
    obtain rfl : k = i := by omega
    rw [FL_Mo_isThere_5, if_pos (nI_le (by omega) (by omega))]
  | succ d ih =>
    intro k fu e1 e2
    obtain ⟨fu, rfl⟩ : ∃ f, fu = f + 1 := ⟨fu - 1, by omega⟩
    have ih := ih (k + 1) fu (by omega) (by omega)
    obtain ⟨wk, w5⟩ := hn k (by omega)
    rw [la] at ih
    rw [FL_Mo_isThere_5, if_neg (nI_ge (a := k) (b := i) (by omega) (by omega)), q_in_nI (j := k) (by omega) (by omega), q_in_nI (j := i) (by omega) (by omega), nI_clamp (n := k) (by omega), nI_clamp (n := i) (by omega), wk, hh, nI_1, cond_true, cond_true]
    by_cases g2 : w k = h
    · rw [if_pos g2] at ih
      rw [if_pos (by rw [g2])]
      exact ih
    · rw [if_neg g2] at ih
      rw [if_neg (fun z => g2 ((nI_eq (by omega) (by omega)).mp z))]
      exact ih
theorem isThere_ok {l : aL} {x : aN} {n : Nat → Nat → Int32} (hg : gInv l x n) {w : Nat → Nat} {i h : Nat} (hi : i < lK l) (hn : ∀ k, k < i → n 67 k = nI (w k) ∧ w k < 5) (hh : n 67 i = nI h) (hH : h < lH l) : F_Mo_isThere n (nI i) = some (if okr (cbB l x) (cg l x) w i h = true then 1 else 0) := by
  have hI := hg.1
  have hfu := qFU_big
  have h5 := hI.1.2.1
  have h8 := hI.1.2.2.1
  unfold F_Mo_isThere
  rw [show FL_Mo_isThere_5 qFU n (nI i) (Int32.ofInt (-9)) 0 = _ from isThere5 (by omega) hn hh (by omega) i 0 qFU (by omega) (by omega), Option.bind_some, q_in_nI (j := i) (by omega) (by omega), nI_clamp (n := i) (by omega), hh, cond_true, canBe_ok hg hH hi, Option.bind_some]
  by_cases z : cbB l x h i = true
  · rw [if_pos z, if_neg ne1]
    cases hl : la w h i with
    | none =>
      have e : okr (cbB l x) (cg l x) w i h = true := by unfold okr; rw [z, hl]; rfl
      rw [oI_none, if_pos rfl, e]
      rfl
    | some k =>
      have ki := (la_some hl).1
      have e : okr (cbB l x) (cg l x) w i h = can (lW l) (lS l) (lC l) (cm l x) k i := by unfold okr; rw [z, hl]; rfl
      rw [oI_some, if_neg (nI_neg9 (by omega)), canGo_ok hI.1 hI.2.1 hI.2.2.1 hI.2.2.2.2.1 hI.2.2.2.2.2.1 hI.2.2.2.2.2.2.1 hI.2.2.2.2.2.2.2 (by omega) hi, Option.bind_some, e]
      cases can (lW l) (lS l) (lC l) (cm l x) k i
      · rfl
      · rfl
  · rw [if_neg z, if_pos rfl]
    have e : okr (cbB l x) (cg l x) w i h = false := by
      have : cbB l x h i = false := by simpa using z
      unfold okr
      rw [this]
      rfl
    rw [e]
    rfl
theorem ways59 {l : aL} {x : aN} {w : Nat → Nat} {i : Nat} (a : Int32) (hi : i < lK l) : ∀ (e h fu : Nat) (n : Nat → Nat → Int32), gInv l x n → (∀ k, k < i → n 67 k = nI (w k) ∧ w k < 5) → n 67 i = nI h → h + e = lH l → e < fu → ∃ h' n', h ≤ h' ∧ h' ≤ lH l ∧ FL_Mo_ways_59 fu n a (nI i) = some n' ∧ n' 67 i = nI h' ∧ (∀ k, k ≠ 67 → n' k = n k) ∧ (∀ j, j ≠ i → n' 67 j = n 67 j) ∧ (∀ p, h ≤ p → p < h' → okr (cbB l x) (cg l x) w i p = false) ∧ (h' = lH l ∨ okr (cbB l x) (cg l x) w i h' = true) := by
  intro e
  induction e with
  | zero =>
    intro h fu n hI hn hh e1 e2
    obtain ⟨fu, rfl⟩ : ∃ f, fu = f + 1 := ⟨fu - 1, by omega⟩
    have h8 := hI.1.1.2.2.1
    have h5 := hI.1.1.2.1
    refine ⟨h, n, by omega, by omega, ?_, hh, fun _ _ => rfl, fun _ _ => rfl, fun p h1 h2 => absurd h1 (by omega), Or.inl (by omega)⟩
    rw [FL_Mo_ways_59, q_in_nI (j := i) (by omega) (by omega), nI_clamp (n := i) (by omega), hh, cond_true, hI.1.2.1.2.1, if_pos (nI_le (by omega) (by omega))]
  | succ e ih =>
    intro h fu n hI hn hh e1 e2
    obtain ⟨fu, rfl⟩ : ∃ f, fu = f + 1 := ⟨fu - 1, by omega⟩
    have h8 := hI.1.1.2.2.1
    have h5 := hI.1.1.2.1
    cases hfit : okr (cbB l x) (cg l x) w i h with
    | true =>
      refine ⟨h, n, by omega, by omega, ?_, hh, fun _ _ => rfl, fun _ _ => rfl, fun p h1 h2 => absurd h1 (by omega), Or.inr hfit⟩
      rw [FL_Mo_ways_59, q_in_nI (j := i) (by omega) (by omega), nI_clamp (n := i) (by omega), hh, cond_true, hI.1.2.1.2.1, if_neg (nI_ge (by omega) (by omega)), isThere_ok hI hi hn hh (by omega), hfit]
      rfl
    | false =>
      obtain ⟨h', n', a1, a2, a3, a4, a5, a6, a7, a8⟩ := ih (h + 1) fu (q_w n 67 i (nI (h + 1))) (hI.fr (fun k hk => q_w_row _ _ _ (by omega))) (fun k hk => by rw [q_w_ne _ _ (by omega)]; exact hn k hk) (q_w_same _ _ _ _) (by omega) (by omega)
      refine ⟨h', n', by omega, a2, ?_, a4, fun k hk => by rw [a5 k hk, q_w_row _ _ _ hk], fun j hj => by rw [a6 j hj, q_w_ne _ _ (by omega)], fun p h1 h2 => ?_, a8⟩
      · rw [FL_Mo_ways_59, q_in_nI (j := i) (by omega) (by omega), nI_clamp (n := i) (by omega), hh, cond_true, hI.1.2.1.2.1, if_neg (nI_ge (by omega) (by omega)), isThere_ok hI hi hn hh (by omega), hfit, Option.bind_some, if_pos (by decide), cond_true, cond_true, nI_1]
        exact a3
      · by_cases z : p = h
        · rw [z]
          exact hfit
        · exact a7 p (by omega) h2
theorem ways144 {K : Nat} (hK : K ≤ 8) {w th : Nat → Nat} (a b : Int32) : ∀ (d k fu : Nat) (n : Nat → Nat → Int32), k + d = K → d < fu → n 56 17 = nI K → (∀ p, p < K → n 67 p = nI (w p) ∧ w p < 5) → (∀ p, k ≤ p → p < K → n 69 p = nI (th p)) → ∃ n', FL_Mo_ways_144 fu n a b (nI k) = some n' ∧ (∀ q, q ≠ 69 → n' q = n q) ∧ (∀ p, k ≤ p → p < K → n' 69 p = nI (th p ||| 2 ^ w p)) ∧ ∀ p, p < k → n' 69 p = n 69 p := by
  intro d
  induction d with
  | zero =>
    intro k fu n e1 e2 h17 hw ht
    obtain ⟨fu, rfl⟩ : ∃ f, fu = f + 1 := ⟨fu - 1, by omega⟩
    rw [FL_Mo_ways_144, h17, if_pos (nI_le (by omega) (by omega))]
    exact ⟨n, rfl, fun _ _ => rfl, fun p h1 h2 => absurd h1 (by omega), fun _ _ => rfl⟩
  | succ d ih =>
    intro k fu n e1 e2 h17 hw ht
    obtain ⟨fu, rfl⟩ : ∃ f, fu = f + 1 := ⟨fu - 1, by omega⟩
    obtain ⟨wk, w5⟩ := hw k (by omega)
    rw [FL_Mo_ways_144, h17, if_neg (nI_ge (by omega) (by omega)), q_in_nI (j := k) (by omega) (by omega), nI_clamp (n := k) (by omega), cond_true, cond_true, cond_true, wk, nI_shl1 _ (by omega), ht k (by omega) (by omega), nI_or, nI_1]
    obtain ⟨n', a1, a2, a3, a4⟩ := ih (k + 1) fu (q_w n 69 k (nI (th k ||| 2 ^ w k))) (by omega) (by omega) (by rw [q_w_row _ _ _ (by omega)]; exact h17) (fun p hp => by rw [q_w_row _ _ _ (by omega)]; exact hw p hp) (fun p h1 h2 => by rw [q_w_ne _ _ (by omega)]; exact ht p (by omega) h2)
    refine ⟨n', a1, fun q hq => by rw [a2 q hq, q_w_row _ _ _ hq], fun p h1 h2 => ?_, fun p hp => by rw [a4 p (by omega), q_w_ne _ _ (by omega)]⟩
    by_cases z : p = k
    · rw [z, a4 k (by omega), q_w_same]
    · exact a3 p (by omega) h2
/-- rows that go on from one, and what is marked of them -/
def chn (B G : Nat → Nat → Bool) (H K i : Nat) (w' : Nat → Nat) : Prop := ∀ j, i ≤ j → j < K → w' j < H ∧ okr B G w' j (w' j) = true
def eX (B G : Nat → Nat → Bool) (H K i : Nat) (w : Nat → Nat) (h : Nat) (w' : Nat → Nat) : Prop := (∀ j, j < i → w' j = w j) ∧ chn B G H K i w' ∧ (i < K → h ≤ w' i)
def tR (K : Nat) (th th' : Nat → Nat) (E : (Nat → Nat) → Prop) : Prop := ∀ p, p < K → ∀ h, ((th' p).testBit h = true ↔ ((th p).testBit h = true ∨ ∃ w', E w' ∧ w' p = h))
theorem tR.cp {K : Nat} {th th' th'' : Nat → Nat} {E F D : (Nat → Nat) → Prop} (h1 : tR K th th' E) (h2 : tR K th' th'' F) (h3 : ∀ w', D w' ↔ E w' ∨ F w') : tR K th th'' D := by
  intro p hp h
  rw [h2 p hp h, h1 p hp h]
  constructor
  · rintro ((z | ⟨w', z1, z2⟩) | ⟨w', z1, z2⟩)
    · exact Or.inl z
    · exact Or.inr ⟨w', (h3 w').mpr (Or.inl z1), z2⟩
    · exact Or.inr ⟨w', (h3 w').mpr (Or.inr z1), z2⟩
  · rintro (z | ⟨w', z1, z2⟩)
    · exact Or.inl (Or.inl z)
    · rcases (h3 w').mp z1 with y | y
      · exact Or.inl (Or.inr ⟨w', y, z2⟩)
      · exact Or.inr ⟨w', y, z2⟩
theorem tR.no {K : Nat} {th : Nat → Nat} {E : (Nat → Nat) → Prop} (h : ∀ w', ¬ E w') : tR K th th E := fun p _ q => ⟨Or.inl, fun z => z.elim id (fun ⟨w', z1, _⟩ => absurd z1 (h w'))⟩
theorem sm_skip {f : Nat → Nat} : ∀ (d c h : Nat), (∀ p, h ≤ p → p < h + d → f p = 0) → sm f (d + c) h = sm f c (h + d)
  | 0, c, h, _ => by rw [Nat.zero_add, Nat.add_zero]
  | d + 1, c, h, hf => by
    rw [show d + 1 + c = d + c + 1 by omega, sm, hf h (by omega) (by omega), Nat.zero_add, sm_skip d c (h + 1) (fun p h1 h2 => hf p (by omega) (by omega)), show h + 1 + d = h + (d + 1) by omega]
def bw : Nat → Nat
  | 0 => 0
  | n + 1 => 5 * (1 + bw n) + 1
