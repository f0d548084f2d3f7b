/-! fits, sure: the class counts -/
def chk (X : Nat) : List Nat → Bool
  | [] => false
  | [p] => decide (p = 0)
  | p :: q :: r => decide (p ≠ 0) && (decide (q = (p - 1) &&& X) && chk X (q :: r))
theorem chk_all : ∀ X, X < 256 → chk X (sbl 8 X) = true := by decide +kernel
theorem hd_all : ∀ X, X < 256 → (sbl 8 X).headD 0 = X := by decide +kernel
theorem len_all : ∀ X, X < 256 → (sbl 8 X).length ≤ 256 := by decide +kernel
theorem xs_all : ∀ S, S < 256 → (sbl 8 S).all (fun p => decide (S ^^^ p = S - p)) = true := by decide +kernel
theorem sbl_sub : ∀ n S M p, p ∈ sbl n (S &&& M) → p ∈ sbl n S
  | 0, _, _, _, h => h
  | n + 1, S, M, p, h => by
    have lo : p ∈ sbl n S → p ∈ sbl (n + 1) S := fun z => by
      rw [sbl]
      by_cases b : S.testBit n = true
      · rw [if_pos b, List.mem_append]
        exact Or.inr z
      · rw [if_neg b]
        exact z
    rw [sbl, Nat.testBit_and] at h
    by_cases b : (S.testBit n && M.testBit n) = true
    · rw [if_pos b, List.mem_append] at h
      rcases h with h | h
      · obtain ⟨q, hq, rfl⟩ := List.mem_map.mp h
        rw [sbl, if_pos (by simp at b; exact b.1), List.mem_append]
        exact Or.inl (List.mem_map.mpr ⟨q, sbl_sub n S M q hq, rfl⟩)
      · exact lo (sbl_sub n S M p h)
    · rw [if_neg b] at h
      exact lo (sbl_sub n S M p h)
theorem ls_z : ∀ n X (f : Nat → Nat), ls f (sbl n X) = f 0 + ls (fun P => if P = 0 then 0 else f P) (sbl n X)
  | 0, X, f => rfl
  | n + 1, X, f => by
    have ih := ls_z n X f
    rw [sbl]
    by_cases b : X.testBit n = true
    · have e : ls (fun p => if p + 2 ^ n = 0 then 0 else f (p + 2 ^ n)) (sbl n X) = ls (fun p => f (p + 2 ^ n)) (sbl n X) := by
        apply ls_cg
        intro p _
        have : 0 < 2 ^ n := Nat.pow_pos (by omega)
        rw [if_neg (by omega)]
      rw [if_pos b, ls_app, ls_map, ls_app, ls_map, e]
      omega
    · rw [if_neg b]
      exact ih
theorem sbs_add {P n M : Nat} (h : P < 2 ^ n) (hn : n < 8) : sbs (P + 2 ^ n) M = (sbs P M && M.testBit n) := by
  rw [Bool.eq_iff_iff, Bool.and_eq_true, sbs_iff, sbs_iff]
  constructor
  · intro e
    refine ⟨fun i hi hb => ?_, e n hn (bt_eq h)⟩
    have hin : i < n := by
      apply Classical.byContradiction
      intro z
      rw [bt_ge h (by omega)] at hb
      exact absurd hb (by decide)
    exact e i hi (by rw [bt_lo hin]; exact hb)
  · rintro ⟨e1, e2⟩ i hi hb
    by_cases z : i = n
    · rw [z]
      exact e2
    · by_cases y : i < n
      · rw [bt_lo y] at hb
        exact e1 i hi hb
      · rw [bt_hi h (by omega)] at hb
        exact absurd hb (by decide)
theorem sbs0 (M : Nat) : sbs 0 M = true := by
  rw [sbs_iff]
  intro i _ z
  rw [Nat.zero_testBit] at z
  exact absurd z (by decide)
theorem ls_and : ∀ n, n ≤ 8 → ∀ S M (f : Nat → Nat), ls f (sbl n (S &&& M)) = ls (fun P => if sbs P M = true then f P else 0) (sbl n S)
  | 0, _, S, M, f => by
    rw [sbl, sbl, ls, ls, ls, ls, if_pos (sbs0 M)]
  | n + 1, hn, S, M, f => by
    have ih := ls_and n (by omega) S M
    rw [sbl, sbl, Nat.testBit_and]
    by_cases b : S.testBit n = true
    · by_cases c : M.testBit n = true
      · have e : ls (fun p => if sbs (p + 2 ^ n) M = true then f (p + 2 ^ n) else 0) (sbl n S) = ls (fun p => if sbs p M = true then f (p + 2 ^ n) else 0) (sbl n S) := by
          apply ls_cg
          intro p hp
          rw [sbs_add (sbl_lt n S p hp) (by omega), c, Bool.and_true]
        rw [if_pos (by rw [b, c]; rfl), if_pos b, ls_app, ls_map, ls_app, ls_map, ih f, ih (fun p => f (p + 2 ^ n)), e]
      · have e : ls (fun p => if sbs (p + 2 ^ n) M = true then f (p + 2 ^ n) else 0) (sbl n S) = 0 := by
          refine (ls_cg _ (fun p hp => ?_)).trans (ls_zero (sbl n S))
          rw [sbs_add (sbl_lt n S p hp) (by omega), if_neg (by simp [c])]
        rw [if_neg (by simp [c]), if_pos b, ls_app, ls_map, e, Nat.zero_add, ih]
    · rw [if_neg (by simp [b]), if_neg b, ih]
theorem add21 {m : Nat → Nat → Int32} {S M : Nat} {W : Nat → Nat} {G : Nat → Nat → Bool} (hS : S < 256) (h54 : ∀ P, P ∈ sbl 8 (S &&& M) → m 54 P = itI G P) (h55 : ∀ P, P ∈ sbl 8 (S &&& M) → m 55 (S - P) = nI (W (S - P))) : ∀ (L : List Nat) (p s fu : Nat), chk (S &&& M) (p :: L) = true → (∀ q, q ∈ p :: L → q ∈ sbl 8 (S &&& M)) → L.length < fu → FL_Gu_addHedgehog_52_21 fu m (nI M) (nI S) (nI s) (nI p) = some (nI (s + ls (fun P => if P = 0 then 0 else if itf G P = true then W (S - P) else 0) (p :: L))) := by
  intro L
  induction L with
  | nil =>
    intro p s fu h1 h2 h3
    obtain ⟨fu, rfl⟩ : ∃ f, fu = f + 1 := ⟨fu - 1, by omega⟩
    have p0 : p = 0 := by simpa [chk] using h1
    subst p0
    rw [FL_Gu_addHedgehog_52_21, if_pos (by decide)]
    rfl
  | cons q L ih =>
    intro p s fu h1 h2 h3
    rw [List.length_cons] at h3
    obtain ⟨fu, rfl⟩ : ∃ f, fu = f + 1 := ⟨fu - 1, by omega⟩
    rw [chk, Bool.and_eq_true, Bool.and_eq_true, decide_eq_true_eq, decide_eq_true_eq] at h1
    obtain ⟨p0, hq, hc⟩ := h1
    have pm := h2 p List.mem_cons_self
    have p256 := sbl_lt 8 _ p pm
    have pS := sbl_sub 8 S M p pm
    have ple := sbl_le' pS
    have xs : S ^^^ p = S - p := by
      have := List.all_eq_true.mp (xs_all S hS) p pS
      simpa using this
    have nx : ((nI p - 1) &&& nI S) &&& nI M = nI q := by
      rw [i_1, pk_sub (by omega), nI_and, nI_and, Nat.and_assoc, ← hq]
    have ih := fun s => ih q s fu hc (fun r hr => h2 r (List.mem_cons_of_mem _ hr)) (by omega)
    rw [FL_Gu_addHedgehog_52_21, if_neg (nI_nle (by omega) (by omega)), q_in_nI (j := p) (by omega) (by omega), nI_clamp (n := p) (by omega), h54 p pm, nx, nI_xor, xs, q_in_nI (j := S - p) (by omega) (by omega), nI_clamp (n := S - p) (by omega), h55 p pm, nI_add, cond_true, cond_true, ls, if_neg p0]
    by_cases z : itf G p = true
    · rw [show itI G p = 1 by rw [itI, if_pos z], if_neg ne1, if_pos z, ih, ← Nat.add_assoc]
    · rw [show itI G p = 0 by rw [itI, if_neg z], if_pos rfl, if_neg z, ih, Nat.zero_add]
def wN (G : Nat → Nat → Bool) (M : Nat) (W : Nat → Nat) (S : Nat) : Nat := ls (fun P => if (sbs P M && itf G P) = true then W (S - P) else 0) (sbl 8 S)
theorem and_lt {S M : Nat} (h : S < 256) : S &&& M < 256 := Nat.lt_of_le_of_lt Nat.and_le_left h
theorem add21_ok {m : Nat → Nat → Int32} {S M : Nat} {W : Nat → Nat} {G : Nat → Nat → Bool} (hS : S < 256) (h54 : ∀ P, P ≤ S → m 54 P = itI G P) (h55 : ∀ T, T ≤ S → m 55 T = nI (W T)) : FL_Gu_addHedgehog_52_21 qFU m (nI M) (nI S) (m 55 S) (nI S &&& nI M) = some (nI (wN G M W S)) := by
  have hfu := qFU_big
  have hX := and_lt (M := M) hS
  have hc := chk_all _ hX
  have hh := hd_all _ hX
  have hl := len_all _ hX
  obtain ⟨p, L, hpl⟩ : ∃ p L, sbl 8 (S &&& M) = p :: L := by
    cases h : sbl 8 (S &&& M) with
    | nil =>
      rw [h, chk] at hc
      exact absurd hc (by decide)
    | cons p L => exact ⟨p, L, rfl⟩
  have hp : p = S &&& M := by
    rw [hpl] at hh
    exact hh
  rw [hpl] at hc hl
  rw [List.length_cons] at hl
  have a := add21 (m := m) (S := S) (M := M) (W := W) (G := G) hS (fun P hP => h54 P (sbl_le' (sbl_sub 8 S M P hP))) (fun P hP => h55 _ (by omega)) L p (W S) qFU hc (fun q hq => by rw [hpl]; exact hq) (by omega)
  rw [← hpl, hp] at a
  rw [h55 S (by omega), nI_and, a]
  have z := ls_z 8 (S &&& M) (fun P => if itf G P = true then W (S - P) else 0)
  rw [if_pos (itf0 G), Nat.sub_zero, ls_and 8 (by omega)] at z
  rw [← z]
  unfold wN
  congr 2
  apply ls_cg
  intro P _
  cases sbs P M <;> cases itf G P <;> rfl
theorem add5 {S0 M : Nat} {W : Nat → Nat} {G : Nat → Nat → Bool} (hA : S0 < 256) : ∀ (s fu : Nat) (m : Nat → Nat → Int32), s ≤ S0 → s < fu → (∀ P, P ≤ S0 → m 54 P = itI G P) → (∀ T, T ≤ s → m 55 T = nI (W T)) → (∀ T, s < T → T ≤ S0 → m 55 T = nI (wN G M W T)) → ∃ m', FL_Gu_addHedgehog_52_5 fu m (nI M) (nI s) = some m' ∧ (∀ k, k ≠ 55 → m' k = m k) ∧ ∀ T, T ≤ S0 → m' 55 T = nI (wN G M W T) := by
  intro s
  induction s with
  | zero =>
    intro fu m e1 e2 h54 h55 h56
    obtain ⟨fu, rfl⟩ : ∃ f, fu = f + 1 := ⟨fu - 1, by omega⟩
    rw [FL_Gu_addHedgehog_52_5, if_pos (by decide)]
    refine ⟨m, rfl, fun _ _ => rfl, fun T hT => ?_⟩
    by_cases z : T = 0
    · have e : wN G M W 0 = W 0 := by
        have e8 : sbl 8 0 = [0] := by decide
        rw [wN, e8, ls, ls, sbs0, itf0]
        rfl
      rw [z, e]
      exact h55 0 (by omega)
    · exact h56 T (by omega) hT
  | succ s ih =>
    intro fu m e1 e2 h54 h55 h56
    obtain ⟨fu, rfl⟩ : ∃ f, fu = f + 1 := ⟨fu - 1, by omega⟩
    have a := add21_ok (m := m) (S := s + 1) (M := M) (W := W) (G := G) (by omega) (fun P hP => h54 P (by omega)) (fun T hT => h55 T hT)
    rw [FL_Gu_addHedgehog_52_5, if_neg (nI_nle (by omega) (by omega)), q_in_nI (j := s + 1) (by omega) (by omega), nI_clamp (n := s + 1) (by omega), a, cond_true, Option.bind_some, cond_true, nI_m1, nI_pred]
    obtain ⟨m', b1, b2, b3⟩ := ih fu (q_w m 55 (s + 1) (nI (wN G M W (s + 1)))) (by omega) (by omega) (fun P hP => by rw [q_w_row _ _ _ (by omega)]; exact h54 P hP) (fun T hT => by rw [q_w_ne _ _ (by omega)]; exact h55 T (by omega)) (fun T h1 h2 => by
      by_cases z : T = s + 1
      · rw [z, q_w_same]
      · rw [q_w_ne _ _ (by omega)]
        exact h56 T (by omega) h2)
    exact ⟨m', b1, fun k hk => by rw [b2 k hk, q_w_row _ _ _ hk], b3⟩
theorem addHog_ok {S0 M : Nat} {W : Nat → Nat} {G : Nat → Nat → Bool} (hA : S0 < 256) {m : Nat → Nat → Int32} (h52 : m 52 1 = nI S0) (h54 : ∀ P, P ≤ S0 → m 54 P = itI G P) (h55 : ∀ T, T ≤ S0 → m 55 T = nI (W T)) : ∃ m', F_Gu_addHedgehog_52 m (nI M) = some m' ∧ (∀ k, k ≠ 55 → m' k = m k) ∧ ∀ T, T ≤ S0 → m' 55 T = nI (wN G M W T) := by
  have hfu := qFU_big
  obtain ⟨m', a1, a2, a3⟩ := add5 (M := M) (W := W) (G := G) hA S0 qFU m (by omega) (by omega) h54 h55 (fun T h1 h2 => absurd h1 (by omega))
  refine ⟨m', ?_, a2, a3⟩
  unfold F_Gu_addHedgehog_52
  rw [h52, a1]
  rfl
theorem keep17 {K H S0 : Nat} {B' G : Nat → Nat → Bool} {x1 x2 : Int32} (hH : H ≤ 5) (hA : S0 < 256) : ∀ (d h fu : Nat) (m : Nat → Nat → Int32), h + d = H → d < fu → m 52 0 = nI H → m 52 1 = nI S0 → (∀ P, P ≤ S0 → m 54 P = itI G P) → (∀ p, p < H → (if nI p = x2 then m 53 p else m 53 p &&& (x1 ^^^ Int32.ofInt (-1))) = nI (rb (B' p) K)) → (∀ T, T ≤ S0 → m 55 T = nI (dD (fun h P => sbs P (rb (B' h) K) && itf G P) 8 h T)) → ∃ m', FL_Gu_waysKeeping_52_17 fu m x1 x2 (nI h) = some m' ∧ (∀ k, k ≠ 55 → m' k = m k) ∧ ∀ T, T ≤ S0 → m' 55 T = nI (dD (fun h P => sbs P (rb (B' h) K) && itf G P) 8 H T) := by
  intro d
  induction d with
  | zero =>
    intro h fu m e1 e2 h52 h521 h54 hM h55
    obtain ⟨fu, rfl⟩ : ∃ f, fu = f + 1 := ⟨fu - 1, by omega⟩
    rw [FL_Gu_waysKeeping_52_17, h52, if_pos (nI_le (by omega) (by omega))]
    exact ⟨m, rfl, fun _ _ => rfl, by rw [← show h = H by omega]; exact h55⟩
  | succ d ih =>
    intro h fu m e1 e2 h52 h521 h54 hM h55
    obtain ⟨fu, rfl⟩ : ∃ f, fu = f + 1 := ⟨fu - 1, by omega⟩
    obtain ⟨m1, a1, a2, a3⟩ := addHog_ok (M := rb (B' h) K) (G := G) hA h521 h54 h55
    have hm := hM h (by omega)
    have e : FL_Gu_waysKeeping_52_17 (fu + 1) m x1 x2 (nI h) = FL_Gu_waysKeeping_52_17 fu m1 x1 x2 (nI (h + 1)) := by
      rw [FL_Gu_waysKeeping_52_17, h52, if_neg (nI_ge (by omega) (by omega)), q_in_nI (j := h) (by omega) (by omega), nI_clamp (n := h) (by omega), nI_1, cond_true, cond_true]
      by_cases z : nI h = x2
      · rw [if_pos z] at hm ⊢
        rw [hm, a1, Option.bind_some]
      · rw [if_neg z] at hm ⊢
        rw [hm, a1, Option.bind_some]
    rw [e]
    obtain ⟨m', b1, b2, b3⟩ := ih (h + 1) fu m1 (by omega) (by omega) (by rw [a2 _ (by omega)]; exact h52) (by rw [a2 _ (by omega)]; exact h521) (fun P hP => by rw [a2 _ (by omega)]; exact h54 P hP) (fun p hp => by rw [a2 _ (by omega)]; exact hM p hp) (fun T hT => by
      rw [a3 T hT, dD]
      rfl)
    exact ⟨m', b1, fun k hk => by rw [b2 k hk, a2 k hk], b3⟩
theorem fill55 (x1 : Int32) : ∀ (d j fu : Nat) (m : Nat → Nat → Int32), j + d = 256 → d < fu → ∃ m', FL_Ar_fill_55_5 fu m x1 (nI j) 256 = some m' ∧ (∀ k, k ≠ 55 → m' k = m k) ∧ (∀ p, j ≤ p → p < 256 → m' 55 p = x1) ∧ ∀ p, p < j → m' 55 p = m 55 p := by
  intro d
  induction d with
  | zero =>
    intro j fu m e1 e2
    obtain ⟨fu, rfl⟩ : ∃ f, fu = f + 1 := ⟨fu - 1, by omega⟩
    obtain rfl : j = 256 := by omega
    rw [FL_Ar_fill_55_5, if_pos (by decide)]
    exact ⟨m, rfl, fun _ _ => rfl, fun p h1 h2 => absurd h1 (by omega), fun _ _ => rfl⟩
  | succ d ih =>
    intro j fu m e1 e2
    obtain ⟨fu, rfl⟩ : ∃ f, fu = f + 1 := ⟨fu - 1, by omega⟩
    have g1 : ¬ (256 : Int32) ≤ nI j := (nI_ge (by omega) (by omega) : ¬ nI 256 ≤ nI j)
    rw [FL_Ar_fill_55_5, if_neg g1, q_in_nI (j := j) (by omega) (by omega), nI_clamp (n := j) (by omega), cond_true, nI_1]
    obtain ⟨m', a1, a2, a3, a4⟩ := ih (j + 1) fu (q_w m 55 j x1) (by omega) (by omega)
    refine ⟨m', a1, fun k hk => by rw [a2 k hk, q_w_row _ _ _ hk], fun p h1 h2 => ?_, fun p hp => by rw [a4 p (by omega), q_w_ne _ _ (by omega)]⟩
    by_cases z : p = j
    · rw [a4 p (by omega), z, q_w_same]
    · exact a3 p (by omega) h2
theorem dD_lift {it : Nat → Nat → Bool} {n : Nat} (h S : Nat) (hs : S < 2 ^ n) : ∀ k, dD it (n + k) h S = dD it n h S
  | 0 => rfl
  | k + 1 => by
    have : 2 ^ n ≤ 2 ^ (n + k) := Nat.pow_le_pow_right (by omega) (by omega)
    rw [← Nat.add_assoc, dD_up h S (by omega), dD_lift h S hs k]
theorem trG_ok {l : aL} {x : aN} (hk : aLok l) : trG (cg l x) (lK l) := by
  intro a b c h1 h2 h3 g1 g2
  have P := hk.2.2.2.2.2.2.2.2.2.1
  have tri := hk.2.2.2.2.2.2.2.2.2.2.2.2.2.1 (lC l a) (lC l b) (lC l c)
  unfold cg can at g1 g2 ⊢
  cases u1 : lW l (8 * lC l a + lC l b) with
  | none => rw [u1] at g1; exact Bool.noConfusion g1
  | some u =>
    cases v1 : lW l (8 * lC l b + lC l c) with
    | none => rw [v1] at g2; exact Bool.noConfusion g2
    | some v =>
      rw [u1] at g1
      rw [v1] at g2
      obtain ⟨t, t1, t2⟩ := tri u v (P a (by omega)) (P b (by omega)) (P c h3) u1 v1
      rw [t1]
      have g1 : lS l * u + cm l x a ≤ cm l x b := by simpa using g1
      have g2 : lS l * v + cm l x b ≤ cm l x c := by simpa using g2
      have g3 : lS l * t ≤ lS l * (u + v) := Nat.mul_le_mul_left _ t2
      rw [Nat.mul_add] at g3
      have : lS l * t + cm l x a ≤ cm l x c := by omega
      simpa using this
theorem keep_ok {l : aL} {x : aN} {m : Nat → Nat → Int32} (hk : aLok l) (hg : gP l x m) {B' : Nat → Nat → Bool} {x1 x2 : Int32} (hM : ∀ p, p < lH l → (if nI p = x2 then m 53 p else m 53 p &&& (x1 ^^^ Int32.ofInt (-1))) = nI (rb (B' p) (lK l))) : ∃ m', F_Gu_waysKeeping_52 m x1 x2 = some (nI (cn B' (cg l x) (lH l) (lK l) 0 w0), m') ∧ ∀ k, k ≠ 55 → m' k = m k := by
  have hfu := qFU_big
  have h8 := hk.2.2.1
  have h5 := hk.2.1
  have p0 : 0 < 2 ^ lK l := Nat.pow_pos (by omega)
  have p8 : 2 ^ lK l ≤ 2 ^ 8 := Nat.pow_le_pow_right (by omega) (by omega)
  obtain ⟨m1, a1, a2, a3, a4⟩ := fill55 0 256 0 qFU m (by omega) (by omega)
  have fr : ∀ k, k ≠ 55 → (q_w m1 55 0 1) k = m k := fun k hk => by rw [q_w_row _ _ _ hk, a2 k hk]
  obtain ⟨m2, b1, b2, b3⟩ := keep17 (K := lK l) (B' := B') (G := cg l x) (x1 := x1) (x2 := x2) h5 (S0 := 2 ^ lK l - 1) (by omega) (lH l) 0 qFU (q_w m1 55 0 1) (by omega) (by omega) (by rw [fr _ (by omega)]; exact hg.1) (by rw [fr _ (by omega)]; exact hg.2.1) (fun P hP => by rw [fr _ (by omega)]; exact hg.2.2.2 P (by omega)) (fun p hp => by rw [fr _ (by omega)]; exact hM p hp) (fun T hT => by
    rw [dD]
    by_cases z : T = 0
    · rw [z, q_w_same]
      rfl
    · rw [q_w_ne _ _ (by omega), a3 T (by omega) (by omega), if_neg z]
      rfl)
  have e52 : m2 52 1 = nI (2 ^ lK l - 1) := by rw [b2 _ (by omega), fr _ (by omega)]; exact hg.2.1
  have lift := dD_lift (it := fun h P => sbs P (rb (B' h) (lK l)) && itf (cg l x) P) (n := lK l) (lH l) (2 ^ lK l - 1) (by omega) (8 - lK l)
  rw [show lK l + (8 - lK l) = 8 by omega, ← cn_all (trG_ok hk) h8 w0] at lift
  refine ⟨m2, ?_, fun k hk => by rw [b2 k hk, fr k hk]⟩
  unfold F_Gu_waysKeeping_52 F_Ar_fill_55
  rw [show FL_Ar_fill_55_5 qFU m 0 0 256 = _ from a1, Option.bind_some, Option.bind_some, show FL_Gu_waysKeeping_52_17 qFU (q_w m1 55 0 1) x1 x2 0 = _ from b1, Option.bind_some, e52, q_in_nI (j := 2 ^ lK l - 1) (by omega) (by omega), nI_clamp (n := 2 ^ lK l - 1) (by omega), b3 _ (by omega), cond_true, lift]
theorem and_m1 : ∀ a, a < 256 → nI a &&& (0 ^^^ Int32.ofInt (-1)) = nI a := by decide +kernel
theorem rb256 (f : Nat → Bool) {K : Nat} (hK : K ≤ 8) : rb f K < 256 := Nat.lt_of_lt_of_le (rb_lt f K) (show 2 ^ K ≤ 2 ^ 8 from Nat.pow_le_pow_right (by omega) hK)
theorem E_fits {m n : Nat → Nat → Int32} (h : rR m n) : ∃ r m' n', F_AT_fits m = some (r, m') ∧ F_Mo_fits n = some (r, n') ∧ rR m' n' := by
  have hR := h
  obtain ⟨l, x, hz, hs, y1, y2, len, tx, ht, hl, hx, hr, hh, hi1, hi2⟩ := h
  have h8 := hl.1.2.2.1
  obtain ⟨m1, a1, a2, a3⟩ := prepare_ok (l := l) (x := x) ⟨hl.1, hx.1, hl.2.1, hx.2.1, hr⟩
  obtain ⟨m2, b1, b2⟩ := keep_ok (B' := cbB l x) (x1 := 0) (x2 := 0) hl.1 a2 (fun p hp => by
    rw [a2.2.2.1 p hp, and_m1 _ (rb256 _ h8), ite_self])
  obtain ⟨n1, th, c1, c2, c3, c4, c5⟩ := ways_ok hl.1 hx.1 hl.2.2 hx.2.2
  refine ⟨nI (cn (cbB l x) (cg l x) (lH l) (lK l) 0 w0), m2, n1, ?_, ?_, rR_fr hR (fun k hk => by rw [b2 k (by omega), a3 k (by omega)]) c4 (fun j hj => c5 j (by omega))⟩
  · unfold F_AT_fits F_Gu_waysInAll_52
    rw [a1, Option.bind_some, b1]
    rfl
  · unfold F_Mo_fits
    rw [c1]
    rfl
