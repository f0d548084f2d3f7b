/-! fits, sure: sums over hedgehogs, over sets of points, over rows of numbers -/
def sm (f : Nat → Nat) : Nat → Nat → Nat
  | 0, _ => 0
  | c + 1, h => f h + sm f c (h + 1)
theorem sm_cg {f g : Nat → Nat} : ∀ c h, (∀ p, h ≤ p → p < h + c → f p = g p) → sm f c h = sm g c h
  | 0, _, _ => rfl
  | c + 1, h, e => by
    rw [sm, sm, e h (by omega) (by omega), sm_cg c (h + 1) (fun p a b => e p (by omega) (by omega))]
theorem sm_add (f g : Nat → Nat) : ∀ c h, sm (fun p => f p + g p) c h = sm f c h + sm g c h
  | 0, _ => rfl
  | c + 1, h => by
    rw [sm, sm, sm, sm_add f g c (h + 1)]
    omega
theorem sm_zero : ∀ c h, sm (fun _ => 0) c h = 0
  | 0, _ => rfl
  | c + 1, h => by rw [sm, sm_zero c (h + 1)]
theorem sm_swap (F : Nat → Nat → Nat) (c' h' : Nat) : ∀ c h, sm (fun p => sm (fun q => F p q) c' h') c h = sm (fun q => sm (fun p => F p q) c h) c' h'
  | 0, h => by
    show 0 = sm (fun _ => 0) c' h'
    rw [sm_zero]
  | c + 1, h => by
    show sm (fun q => F h q) c' h' + sm (fun p => sm (fun q => F p q) c' h') c (h + 1) = sm (fun q => F h q + sm (fun p => F p q) c (h + 1)) c' h'
    rw [sm_swap F c' h' c (h + 1), ← sm_add]
theorem sm_last (f : Nat → Nat) : ∀ c h, sm f (c + 1) h = sm f c h + f (h + c)
  | 0, h => by
    show f h + 0 = 0 + f (h + 0)
    rw [Nat.add_zero, Nat.add_zero, Nat.zero_add]
  | c + 1, h => by
    rw [sm, sm_last f c (h + 1), sm, show h + 1 + c = h + (c + 1) by omega]
    omega
theorem sm_pos {f : Nat → Nat} : ∀ c h, 0 < sm f c h ↔ ∃ p, h ≤ p ∧ p < h + c ∧ 0 < f p
  | 0, h => by
    constructor
    · intro z
      exact absurd z (by rw [sm]; omega)
    · rintro ⟨p, h1, h2, _⟩
      omega
  | c + 1, h => by
    have ih := sm_pos (f := f) c (h + 1)
    rw [sm]
    constructor
    · intro z
      by_cases e : 0 < f h
      · exact ⟨h, by omega, by omega, e⟩
      · obtain ⟨p, h1, h2, h3⟩ := ih.mp (by omega)
        exact ⟨p, by omega, by omega, h3⟩
    · rintro ⟨p, h1, h2, h3⟩
      by_cases e : p = h
      · subst e
        omega
      · have := ih.mpr ⟨p, by omega, by omega, h3⟩
        omega
theorem sm_le {f : Nat → Nat} {b : Nat} : ∀ c h, (∀ p, f p ≤ b) → sm f c h ≤ c * b
  | 0, _, _ => Nat.zero_le _
  | c + 1, h, e => by
    have h1 := sm_le c (h + 1) e
    have h2 := e h
    rw [sm, Nat.succ_mul]
    omega
def ls (f : Nat → Nat) : List Nat → Nat
  | [] => 0
  | a :: r => f a + ls f r
theorem ls_app (f : Nat → Nat) : ∀ a b, ls f (a ++ b) = ls f a + ls f b
  | [], b => by
    show ls f b = 0 + ls f b
    rw [Nat.zero_add]
  | x :: a, b => by
    show f x + ls f (a ++ b) = f x + ls f a + ls f b
    rw [ls_app f a b]
    omega
theorem ls_map (f g : Nat → Nat) : ∀ a, ls f (a.map g) = ls (fun p => f (g p)) a
  | [] => rfl
  | x :: a => by
    show f (g x) + ls f (a.map g) = f (g x) + ls (fun p => f (g p)) a
    rw [ls_map f g a]
theorem ls_cg {f g : Nat → Nat} : ∀ L, (∀ p, p ∈ L → f p = g p) → ls f L = ls g L
  | [], _ => rfl
  | x :: a, e => by
    rw [ls, ls, e x (List.mem_cons_self), ls_cg a (fun p hp => e p (List.mem_cons_of_mem _ hp))]
theorem ls_sm (F : Nat → Nat → Nat) (c h : Nat) : ∀ L, ls (fun p => sm (fun q => F p q) c h) L = sm (fun q => ls (fun p => F p q) L) c h
  | [] => by
    show 0 = sm (fun _ => 0) c h
    rw [sm_zero]
  | x :: a => by
    show sm (fun q => F x q) c h + ls (fun p => sm (fun q => F p q) c h) a = sm (fun q => F x q + ls (fun p => F p q) a) c h
    rw [ls_sm F c h a, ← sm_add]
theorem ls_zero : ∀ L, ls (fun _ => 0) L = 0
  | [] => rfl
  | x :: a => by
    show 0 + ls (fun _ => 0) a = 0
    rw [ls_zero a]
/-- the sets that lie in a set, the greatest first -/
def sbl : Nat → Nat → List Nat
  | 0, _ => [0]
  | n + 1, S => if S.testBit n = true then (sbl n S).map (fun p => p + 2 ^ n) ++ sbl n S else sbl n S
theorem sbl_lt : ∀ n S p, p ∈ sbl n S → p < 2 ^ n
  | 0, S, p, h => by
    have : p = 0 := by simpa [sbl] using h
    subst this
    exact Nat.one_pos
  | n + 1, S, p, h => by
    have e : 2 ^ (n + 1) = 2 ^ n + 2 ^ n := by rw [Nat.pow_succ]; omega
    have lo : p ∈ sbl n S → p < 2 ^ (n + 1) := fun z => by
      have := sbl_lt n S p z
      omega
    rw [sbl] at h
    by_cases b : S.testBit n = true
    · rw [if_pos b, List.mem_append] at h
      rcases h with h | h
      · obtain ⟨q, hq, rfl⟩ := List.mem_map.mp h
        have := sbl_lt n S q hq
        omega
      · exact lo h
    · rw [if_neg b] at h
      exact lo h
theorem sbl_le : ∀ n S p, p ∈ sbl n S → p ≤ S % 2 ^ n
  | 0, S, p, h => by
    have : p = 0 := by simpa [sbl] using h
    subst this
    exact Nat.zero_le _
  | n + 1, S, p, h => by
    have e : S % 2 ^ (n + 1) = S % 2 ^ n + 2 ^ n * (S / 2 ^ n % 2) := Nat.mod_pow_succ
    have lo : p ∈ sbl n S → p ≤ S % 2 ^ (n + 1) := fun z => by
      have := sbl_le n S p z
      omega
    rw [sbl] at h
    by_cases b : S.testBit n = true
    · rw [if_pos b, List.mem_append] at h
      rcases h with h | h
      · obtain ⟨q, hq, rfl⟩ := List.mem_map.mp h
        have := sbl_le n S q hq
        rw [testBit_div] at b
        have b : S / 2 ^ n % 2 = 1 := by simpa using b
        rw [e, b]
        omega
      · exact lo h
    · rw [if_neg b] at h
      exact lo h
theorem sbl_le' {n S p : Nat} (h : p ∈ sbl n S) : p ≤ S := Nat.le_trans (sbl_le n S p h) (Nat.mod_le _ _)
theorem sbl_cg : ∀ n S T, (∀ i, i < n → S.testBit i = T.testBit i) → sbl n S = sbl n T
  | 0, _, _, _ => rfl
  | n + 1, S, T, e => by
    rw [sbl, sbl, e n (by omega), sbl_cg n S T (fun i hi => e i (by omega))]
/-- in how many ways hedgehogs below h can have been at a set of points -/
def dD (it : Nat → Nat → Bool) (n : Nat) : Nat → Nat → Nat
  | 0, S => if S = 0 then 1 else 0
  | h + 1, S => ls (fun P => if it h P = true then dD it n h (S - P) else 0) (sbl n S)
theorem dD_cg {it it' : Nat → Nat → Bool} {n : Nat} : ∀ h S, (∀ p, p < h → ∀ P, it p P = it' p P) → dD it n h S = dD it' n h S
  | 0, _, _ => rfl
  | h + 1, S, e => by
    rw [dD, dD]
    apply ls_cg
    intro P _
    rw [e h (by omega) P, dD_cg h (S - P) (fun p hp => e p (by omega))]
theorem dD_up {it : Nat → Nat → Bool} {n : Nat} : ∀ h S, S < 2 ^ n → dD it (n + 1) h S = dD it n h S
  | 0, _, _ => rfl
  | h + 1, S, hs => by
    rw [dD, dD, sbl, if_neg (by rw [Nat.testBit_lt_two_pow hs]; decide)]
    apply ls_cg
    intro P _
    rw [dD_up h (S - P) (by omega)]
def upd' (it : Nat → Nat → Bool) (j n : Nat) : Nat → Nat → Bool := fun h P => if h = j then it h (P + 2 ^ n) else it h P
theorem dD_rem {it : Nat → Nat → Bool} {n : Nat} : ∀ h S, S < 2 ^ n → dD it (n + 1) h (S + 2 ^ n) = sm (fun j => dD (upd' it j n) n h S) h 0
  | 0, S, _ => by
    have : 0 < 2 ^ n := Nat.pow_pos (by omega)
    rw [dD, sm, if_neg (by omega)]
  | h + 1, S, hs => by
    have bt : (S + 2 ^ n).testBit n = true := by
      rw [Nat.add_comm, Nat.testBit_two_pow_add_eq, Nat.testBit_lt_two_pow hs]
      rfl
    have e1 : sbl n (S + 2 ^ n) = sbl n S := sbl_cg n _ _ (fun i hi => by rw [Nat.add_comm, Nat.testBit_two_pow_add_gt hi])
    rw [sm_last, dD, sbl, if_pos bt, ls_app, ls_map, e1, Nat.zero_add, Nat.add_comm]
    congr 1
    · have h1 : ∀ P, P ∈ sbl n S → (if it h P = true then dD it (n + 1) h (S + 2 ^ n - P) else 0) = sm (fun j => if upd' it j n h P = true then dD (upd' it j n) n h (S - P) else 0) h 0 := by
        intro P hP
        have hle := sbl_le' hP
        by_cases b : it h P = true
        · rw [if_pos b, show S + 2 ^ n - P = (S - P) + 2 ^ n by omega, dD_rem h (S - P) (by omega)]
          apply sm_cg
          intro j _ hj
          rw [show upd' it j n h P = it h P by rw [upd', if_neg (by omega)], if_pos b]
        · rw [if_neg b]
          refine ((sm_cg h 0 (fun j _ hj => ?_)).trans (sm_zero h 0)).symm
          rw [show upd' it j n h P = it h P by rw [upd', if_neg (by omega)], if_neg b]
      rw [ls_cg _ h1, ls_sm]
      apply sm_cg
      intro j _ _
      rw [dD]
    · rw [dD]
      apply ls_cg
      intro P hP
      rw [show S + 2 ^ n - (P + 2 ^ n) = S - P by omega, dD_up h (S - P) (by omega), dD_cg (it := it) (it' := upd' it h n) h (S - P) (fun p hp P => by rw [upd', if_neg (by omega)])]
      rw [show upd' it h n h P = it h (P + 2 ^ n) by rw [upd', if_pos rfl]]
/-- sums over rows of numbers -/
def sF (H : Nat) (f : (Nat → Nat) → Nat) : Nat → Nat → (Nat → Nat) → Nat
  | 0, _, w => f w
  | n + 1, i, w => sm (fun h => sF H f n (i + 1) (up1 w i h)) H 0
theorem sF_top (H : Nat) (f : (Nat → Nat) → Nat) : ∀ n i w, sF H f (n + 1) i w = sF H (fun w' => sm (fun h => f (up1 w' (i + n) h)) H 0) n i w
  | 0, i, w => rfl
  | n + 1, i, w => by
    rw [sF, sF]
    apply sm_cg
    intro p _ _
    rw [sF_top H f n (i + 1), show i + (n + 1) = i + 1 + n by omega]
theorem sF_sm (H : Nat) (F : Nat → (Nat → Nat) → Nat) (c h : Nat) : ∀ n i w, sF H (fun w' => sm (fun j => F j w') c h) n i w = sm (fun j => sF H (F j) n i w) c h
  | 0, i, w => rfl
  | n + 1, i, w => by
    show sm (fun p => sF H (fun w' => sm (fun j => F j w') c h) n (i + 1) (up1 w i p)) H 0 = sm (fun j => sm (fun p => sF H (F j) n (i + 1) (up1 w i p)) H 0) c h
    rw [← sm_swap (fun p j => sF H (F j) n (i + 1) (up1 w i p))]
    apply sm_cg
    intro p _ _
    exact sF_sm H F c h n (i + 1) (up1 w i p)
theorem sF_cg {H : Nat} {f g : (Nat → Nat) → Nat} : ∀ n i w, (∀ w', (∀ j, j < i → w' j = w j) → (∀ j, i ≤ j → j < i + n → w' j < H) → f w' = g w') → sF H f n i w = sF H g n i w
  | 0, i, w, e => e w (fun _ _ => rfl) (fun j h1 h2 => absurd h1 (by omega))
  | n + 1, i, w, e => by
    rw [sF, sF]
    apply sm_cg
    intro p _ hp
    apply sF_cg n (i + 1)
    intro w' h1 h2
    refine e w' (fun j hj => by rw [h1 j (by omega), up1_ne _ _ (by omega)]) (fun j h3 h4 => ?_)
    by_cases z : j = i
    · rw [z, h1 i (by omega), up1_same]
      omega
    · exact h2 j (by omega) (by omega)
theorem sF_pos {H : Nat} {f : (Nat → Nat) → Nat} : ∀ n i w, (∀ w1 w2, (∀ j, j < i + n → w1 j = w2 j) → f w1 = f w2) → (0 < sF H f n i w ↔ ∃ w', (∀ j, j < i → w' j = w j) ∧ (∀ j, i ≤ j → j < i + n → w' j < H) ∧ 0 < f w')
  | 0, i, w, e => by
    rw [sF]
    constructor
    · intro z
      exact ⟨w, fun _ _ => rfl, fun j h1 h2 => absurd h1 (by omega), z⟩
    · rintro ⟨w', h1, _, h3⟩
      rw [e w w' (fun j hj => (h1 j hj).symm)]
      exact h3
  | n + 1, i, w, e => by
    rw [sF, sm_pos]
    constructor
    · rintro ⟨p, h1, h2, h3⟩
      obtain ⟨w', k1, k2, k3⟩ := (sF_pos n (i + 1) (up1 w i p) (fun w1 w2 h => e w1 w2 (fun j hj => h j (by omega)))).mp h3
      refine ⟨w', fun j hj => by rw [k1 j (by omega), up1_ne _ _ (by omega)], fun j h3 h4 => ?_, k3⟩
      by_cases z : j = i
      · rw [z, k1 i (by omega), up1_same]
        omega
      · exact k2 j (by omega) (by omega)
    · rintro ⟨w', k1, k2, k3⟩
      refine ⟨w' i, by omega, by have := k2 i (by omega) (by omega); omega, (sF_pos n (i + 1) (up1 w i (w' i)) (fun w1 w2 h => e w1 w2 (fun j hj => h j (by omega)))).mpr ⟨w', fun j hj => ?_, fun j h3 h4 => k2 j (by omega) (by omega), k3⟩⟩
      by_cases z : j = i
      · rw [z, up1_same]
      · rw [up1_ne _ _ z]
        exact k1 j (by omega)
/-- the points of a hedgehog -/
def mk (w : Nat → Nat) (h n : Nat) : Nat := rb (fun i => decide (w i = h)) n
def allI (it : Nat → Nat → Bool) (a : Nat → Nat) : Nat → Bool
  | 0 => true
  | h + 1 => it h (a h) && allI it a h
theorem allI_cg {it it' : Nat → Nat → Bool} {a a' : Nat → Nat} : ∀ H, (∀ h, h < H → it h (a h) = it' h (a' h)) → allI it a H = allI it' a' H
  | 0, _ => rfl
  | h + 1, e => by
    rw [allI, allI, e h (by omega), allI_cg h (fun p hp => e p (by omega))]
theorem allI_iff {it : Nat → Nat → Bool} {a : Nat → Nat} : ∀ H, allI it a H = true ↔ ∀ h, h < H → it h (a h) = true
  | 0 => ⟨fun _ h z => absurd z (by omega), fun _ => rfl⟩
  | H + 1 => by
    rw [allI, Bool.and_eq_true, allI_iff H]
    constructor
    · rintro ⟨h1, h2⟩ h hh
      by_cases z : h = H
      · rw [z]
        exact h1
      · exact h2 h (by omega)
    · intro e
      exact ⟨e H (by omega), fun h hh => e h (by omega)⟩
theorem mk_up (w : Nat → Nat) (n j h : Nat) : mk (up1 w n j) h (n + 1) = mk w h n + if h = j then 2 ^ n else 0 := by
  unfold mk
  rw [rb, rb_cg (f := fun i => decide (up1 w n j i = h)) (g := fun i => decide (w i = h)) n (fun i hi => by rw [up1_ne _ _ (by omega)]), up1_same]
  by_cases z : h = j
  · rw [if_pos z, if_pos (by simp [z])]
  · rw [if_neg z, if_neg (by simp; exact fun y => z y.symm)]
theorem dD_base (it : Nat → Nat → Bool) : ∀ H, dD it 0 H 0 = if allI it (fun _ => 0) H = true then 1 else 0
  | 0 => rfl
  | h + 1 => by
    rw [dD, sbl, ls, ls, Nat.add_zero, Nat.sub_zero, dD_base it h, allI]
    by_cases b : it h 0 = true
    · rw [if_pos b, b, Bool.true_and]
    · rw [if_neg b, if_neg (by simp [b])]
theorem dD_full (H : Nat) : ∀ n it w, dD it n H (2 ^ n - 1) = sF H (fun w => if allI it (fun h => mk w h n) H = true then 1 else 0) n 0 w
  | 0, it, w => dD_base it H
  | n + 1, it, w => by
    have p : 0 < 2 ^ n := Nat.pow_pos (by omega)
    rw [show 2 ^ (n + 1) - 1 = (2 ^ n - 1) + 2 ^ n by rw [Nat.pow_succ]; omega, dD_rem H _ (by omega), sF_top, sF_sm]
    apply sm_cg
    intro j _ _
    rw [dD_full H n (upd' it j n) w]
    apply sF_cg
    intro w' _ _
    rw [Nat.zero_add, allI_cg (it := upd' it j n) (it' := it) (a := fun h => mk w' h n) (a' := fun h => mk (up1 w' n j) h (n + 1)) H (fun h hh => by
      rw [mk_up, upd']
      by_cases z : h = j
      · rw [if_pos z, if_pos z]
      · rw [if_neg z, if_neg z, Nat.add_zero])]
/-- rows that will do -/
def vldb (B G : Nat → Nat → Bool) (w : Nat → Nat) (n : Nat) : Bool := decide (∀ i, i < n → (B (w i) i = true ∧ ∀ j, j < i → (w j = w i → G j i = true)))
def itf (G : Nat → Nat → Bool) (P : Nat) : Bool := allI (fun i _ => !P.testBit i || allI (fun j _ => !P.testBit j || G j i) (fun _ => 0) i) (fun _ => 0) 8
def sbs (P M : Nat) : Bool := allI (fun i _ => !P.testBit i || M.testBit i) (fun _ => 0) 8
theorem nor_iff (a b : Bool) : (!a || b) = true ↔ (a = true → b = true) := by
  cases a <;> cases b <;> decide
theorem sbs_iff (P M : Nat) : sbs P M = true ↔ ∀ i, i < 8 → P.testBit i = true → M.testBit i = true := by
  unfold sbs
  rw [allI_iff]
  exact ⟨fun h i hi => (nor_iff _ _).mp (h i hi), fun h i hi => (nor_iff _ _).mpr (h i hi)⟩
theorem itf_iff (G : Nat → Nat → Bool) (P : Nat) : itf G P = true ↔ ∀ i, i < 8 → P.testBit i = true → ∀ j, j < i → P.testBit j = true → G j i = true := by
  unfold itf
  rw [allI_iff]
  exact ⟨fun h i hi hb j hj => (nor_iff _ _).mp ((allI_iff i).mp ((nor_iff _ _).mp (h i hi) hb) j hj), fun h i hi => (nor_iff _ _).mpr (fun hb => (allI_iff i).mpr (fun j hj => (nor_iff _ _).mpr (h i hi hb j hj)))⟩
theorem mk_bit (w : Nat → Nat) (h n i : Nat) : (mk w h n).testBit i = true ↔ i < n ∧ w i = h := by
  unfold mk
  rw [rb_bit]
  simp
theorem vld_iff {B G : Nat → Nat → Bool} {H K : Nat} {w : Nat → Nat} (hK : K ≤ 8) (hw : ∀ i, i < K → w i < H) : allI (fun h P => sbs P (rb (B h) K) && itf G P) (fun h => mk w h K) H = vldb B G w K := by
  rw [Bool.eq_iff_iff, allI_iff]
  unfold vldb
  simp only [Bool.and_eq_true, decide_eq_true_eq, sbs_iff, itf_iff]
  constructor
  · intro e i hi
    obtain ⟨e1, e2⟩ := e (w i) (hw i hi)
    have b1 : (mk w (w i) K).testBit i = true := (mk_bit _ _ _ _).mpr ⟨hi, rfl⟩
    have b2 := e1 i (by omega) b1
    rw [rb_bit] at b2
    refine ⟨by simpa [hi] using b2, fun j hj hw2 => e2 i (by omega) b1 j hj ((mk_bit _ _ _ _).mpr ⟨by omega, hw2⟩)⟩
  · intro e h hh
    refine ⟨fun i hi hb => ?_, fun i hi hb j hj hb2 => ?_⟩
    · obtain ⟨h1, h2⟩ := (mk_bit _ _ _ _).mp hb
      rw [rb_bit, ← h2, (e i h1).1]
      simp [h1]
    · obtain ⟨h1, h2⟩ := (mk_bit _ _ _ _).mp hb
      obtain ⟨h3, h4⟩ := (mk_bit _ _ _ _).mp hb2
      exact (e i h1).2 j hj (by rw [h2, h4])
def okr (B G : Nat → Nat → Bool) (w : Nat → Nat) (i h : Nat) : Bool := B h i && (match la w h i with | none => true | some k => G k i)
def cn (B G : Nat → Nat → Bool) (H : Nat) : Nat → Nat → (Nat → Nat) → Nat
  | 0, _, _ => 1
  | n + 1, i, w => sm (fun h => if okr B G w i h = true then cn B G H n (i + 1) (up1 w i h) else 0) H 0
theorem la_none {w : Nat → Nat} {p : Nat} : ∀ {i}, la w p i = none → ∀ k, k < i → w k ≠ p
  | 0, _, k, hk => absurd hk (by omega)
  | i + 1, h, k, hk => by
    unfold la at h
    by_cases e : w i = p
    · rw [if_pos e] at h
      exact absurd h (by simp)
    · rw [if_neg e] at h
      by_cases z : k = i
      · rw [z]
        exact e
      · exact la_none h k (by omega)
theorem la_lst {w : Nat → Nat} {p : Nat} : ∀ {i q}, la w p i = some q → ∀ k, q < k → k < i → w k ≠ p
  | 0, q, h, k, h1, h2 => absurd h2 (by omega)
  | i + 1, q, h, k, h1, h2 => by
    unfold la at h
    by_cases e : w i = p
    · rw [if_pos e] at h
      have := Option.some.inj h
      omega
    · rw [if_neg e] at h
      by_cases z : k = i
      · rw [z]
        exact e
      · exact la_lst h k h1 (by omega)
def trG (G : Nat → Nat → Bool) (K : Nat) : Prop := ∀ a b c, a < b → b < c → c < K → G a b = true → G b c = true → G a c = true
theorem vld_step {B G : Nat → Nat → Bool} {K : Nat} (hG : trG G K) {w : Nat → Nat} {i : Nat} (hi : i < K) : vldb B G w (i + 1) = (vldb B G w i && okr B G w i (w i)) := by
  rw [Bool.eq_iff_iff, Bool.and_eq_true]
  unfold vldb okr
  simp only [Bool.and_eq_true, decide_eq_true_eq]
  constructor
  · intro e
    refine ⟨fun j hj => e j (by omega), (e i (by omega)).1, ?_⟩
    cases hl : la w (w i) i with
    | none => rfl
    | some k =>
      have := la_some hl
      exact (e i (by omega)).2 k this.1 this.2
  · rintro ⟨e1, e2, e3⟩ j hj
    by_cases z : j = i
    · subst z
      refine ⟨e2, fun k hk hw => ?_⟩
      cases hl : la w (w j) j with
      | none => exact absurd hw (la_none hl k hk)
      | some q =>
        rw [hl] at e3
        have e3 : G q j = true := e3
        have hq := la_some hl
        by_cases zz : k = q
        · rw [zz]
          exact e3
        · have hlt : k < q := by
            apply Classical.byContradiction
            intro y
            exact la_lst hl k (by omega) hk hw
          exact hG k q j hlt hq.1 hi ((e1 q hq.1).2 k hlt (by rw [hw, hq.2])) e3
    · exact e1 j (by omega)
theorem vld_cg {B G : Nat → Nat → Bool} {w v : Nat → Nat} {n : Nat} (e : ∀ j, j < n → w j = v j) : vldb B G w n = vldb B G v n := by
  rw [Bool.eq_iff_iff]
  unfold vldb
  simp only [decide_eq_true_eq]
  constructor
  · intro h i hi
    have := h i hi
    rw [e i hi] at this
    exact ⟨this.1, fun j hj hw => this.2 j hj (by rw [e j (by omega)]; exact hw)⟩
  · intro h i hi
    have := h i hi
    rw [← e i hi] at this
    exact ⟨this.1, fun j hj hw => this.2 j hj (by rw [← e j (by omega)]; exact hw)⟩
theorem vld_le {B G : Nat → Nat → Bool} {w : Nat → Nat} {n k : Nat} (h : k ≤ n) (e : vldb B G w n = true) : vldb B G w k = true := by
  unfold vldb at e ⊢
  simp only [decide_eq_true_eq] at e ⊢
  exact fun i hi => e i (by omega)
theorem okr_cg {B G : Nat → Nat → Bool} {w v : Nat → Nat} {i h : Nat} (e : ∀ j, j < i → w j = v j) : okr B G w i h = okr B G v i h := by
  unfold okr
  rw [la_cg h i e]
theorem cn_sF {B G : Nat → Nat → Bool} {H K : Nat} (hG : trG G K) : ∀ n i w, i + n = K → cn B G H n i w * (if vldb B G w i = true then 1 else 0) = sF H (fun w' => if vldb B G w' K = true then 1 else 0) n i w
  | 0, i, w, e => by
    rw [cn, sF, Nat.one_mul, show i = K by omega]
  | n + 1, i, w, e => by
    rw [cn, sF]
    have st : ∀ p, vldb B G (up1 w i p) (i + 1) = (vldb B G w i && okr B G w i p) := fun p => by
      rw [vld_step hG (by omega), vld_cg (w := up1 w i p) (v := w) (n := i) (fun j hj => up1_ne _ _ (by omega)), up1_same, okr_cg (w := up1 w i p) (v := w) (fun j hj => up1_ne _ _ (by omega))]
    by_cases z : vldb B G w i = true
    · rw [if_pos z, Nat.mul_one]
      apply sm_cg
      intro p _ _
      rw [← cn_sF hG n (i + 1) (up1 w i p) (by omega), st p, z, Bool.true_and]
      by_cases y : okr B G w i p = true
      · rw [if_pos y, if_pos y, Nat.mul_one]
      · rw [if_neg y, if_neg y, Nat.mul_zero]
    · rw [if_neg z, Nat.mul_zero]
      refine ((sm_cg H 0 (fun p _ _ => ?_)).trans (sm_zero H 0)).symm
      rw [← cn_sF hG n (i + 1) (up1 w i p) (by omega), st p, if_neg (by simp [z]), Nat.mul_zero]
theorem cn_all {B G : Nat → Nat → Bool} {H K : Nat} (hG : trG G K) (hK : K ≤ 8) (w : Nat → Nat) : cn B G H K 0 w = dD (fun h P => sbs P (rb (B h) K) && itf G P) K H (2 ^ K - 1) := by
  have h0 : vldb B G w 0 = true := by
    unfold vldb
    simp
  have h1 := cn_sF (B := B) (H := H) hG K 0 w (by omega)
  rw [h0, if_pos rfl, Nat.mul_one] at h1
  rw [h1, dD_full H K _ w]
  apply sF_cg
  intro w' _ h2
  rw [vld_iff hK (fun i hi => h2 i (by omega) (by omega))]
theorem cn_le {B G : Nat → Nat → Bool} {H : Nat} : ∀ n i w, cn B G H n i w ≤ H ^ n
  | 0, _, _ => Nat.le_refl _
  | n + 1, i, w => by
    rw [cn, Nat.pow_succ, Nat.mul_comm]
    apply sm_le
    intro p
    by_cases y : okr B G w i p = true
    · rw [if_pos y]
      exact cn_le n (i + 1) _
    · rw [if_neg y]
      exact Nat.zero_le _
