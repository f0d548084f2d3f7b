/-! sure -/
def fa (t : Nat) : Nat → Nat → Int32 → Int32 ⊕ Int32
  | 0, _, f => .inr f
  | e + 1, h, f => if t.testBit h = true then (if f = Int32.ofInt (-9) then fa t e (h + 1) (nI h) else .inl (Int32.ofInt (-5))) else fa t e (h + 1) f
def fb (t : Nat) : Nat → Nat → Int32 → Int32
  | 0, _, y => y
  | e + 1, h, y => fb t e (h + 1) (if t = 2 ^ h then nI h else y)
def fc (a : Int32 ⊕ Int32) : Int32 := match a with
  | .inl v => v
  | .inr v => v
theorem fab : ∀ H, H < 6 → ∀ t, t < 32 → t < 2 ^ H → fc (fa t H 0 (Int32.ofInt (-9))) = if t = 0 then Int32.ofInt (-9) else fb t 5 0 (Int32.ofInt (-5)) := by decide +kernel
theorem sure25 {m : Nat → Nat → Int32} {q t : Nat} (hq : q < 8) (ht : t < 32) (h69 : m 69 q = nI t) : ∀ d h fu y, h + d = 5 → d < fu → FL_Mo_sure_25 fu m (nI q) y (nI h) = some (fb t d h y) := by
  intro d
  induction d with
  | zero =>
    intro h fu y e1 e2
    obtain ⟨fu, rfl⟩ : ∃ f, fu = f + 1 := ⟨fu - 1, by omega⟩
    obtain rfl : h = 5 := by omega
    rw [FL_Mo_sure_25, if_pos (by decide), fb]
  | succ d ih =>
    intro h fu y e1 e2
    obtain ⟨fu, rfl⟩ : ∃ f, fu = f + 1 := ⟨fu - 1, by omega⟩
    have g : ¬ (5 : Int32) ≤ nI h := (nI_ge (by omega) (by omega) : ¬ nI 5 ≤ nI h)
    have p5 : 2 ^ h ≤ 2 ^ 5 := Nat.pow_le_pow_right (by omega) (by omega)
    rw [FL_Mo_sure_25, if_neg g, q_in_nI (j := q) (by omega) (by omega), nI_clamp (n := q) (by omega), h69, nI_shl1 h (by omega), cond_true, nI_1, fb]
    by_cases z : t = 2 ^ h
    · rw [if_pos z, if_pos (by rw [z])]
      exact ih (h + 1) fu _ (by omega) (by omega)
    · rw [if_neg z, if_neg (fun y => z ((nI_eq (by omega) (by omega)).mp y))]
      exact ih (h + 1) fu _ (by omega) (by omega)
/-- one point kept for one hedgehog -/
def bK (B : Nat → Nat → Bool) (q h : Nat) : Nat → Nat → Bool := fun p i => B p i && (decide (p = h) || decide (i ≠ q))
theorem vld_all {B G : Nat → Nat → Bool} {K : Nat} (hG : trG G K) (w : Nat → Nat) : ∀ n, n ≤ K → (vldb B G w n = true ↔ ∀ j, j < n → okr B G w j (w j) = true)
  | 0, _ => ⟨fun _ j hj => absurd hj (by omega), fun _ => by unfold vldb; simp⟩
  | n + 1, h => by
    rw [vld_step hG (by omega), Bool.and_eq_true, vld_all hG w n (by omega)]
    constructor
    · rintro ⟨e1, e2⟩ j hj
      by_cases z : j = n
      · rw [z]
        exact e2
      · exact e1 j (by omega)
    · intro e
      exact ⟨fun j hj => e j (by omega), e n (by omega)⟩
theorem chn_vld {B G : Nat → Nat → Bool} {H K : Nat} (hG : trG G K) (w : Nat → Nat) : chn B G H K 0 w ↔ (∀ j, j < K → w j < H) ∧ vldb B G w K = true := by
  rw [vld_all hG w K (by omega)]
  exact ⟨fun h => ⟨fun j hj => (h j (by omega) hj).1, fun j hj => (h j (by omega) hj).2⟩, fun h j _ hj => ⟨h.1 j hj, h.2 j hj⟩⟩
theorem cn_pos {B G : Nat → Nat → Bool} {H K : Nat} (hG : trG G K) (w : Nat → Nat) : 0 < cn B G H K 0 w ↔ ∃ w', (∀ j, j < K → w' j < H) ∧ vldb B G w' K = true := by
  have h0 : vldb B G w 0 = true := by
    unfold vldb
    simp
  have h1 := cn_sF (B := B) (H := H) hG K 0 w (by omega)
  rw [h0, if_pos rfl, Nat.mul_one] at h1
  rw [h1, sF_pos K 0 w (fun w1 w2 e => by rw [vld_cg (fun j hj => e j (by omega))])]
  constructor
  · rintro ⟨w', _, e2, e3⟩
    refine ⟨w', fun j hj => e2 j (by omega) (by omega), ?_⟩
    apply Classical.byContradiction
    intro z
    rw [if_neg z] at e3
    omega
  · rintro ⟨w', e1, e2⟩
    exact ⟨w', fun j hj => absurd hj (by omega), fun j _ hj => e1 j (by omega), by rw [if_pos e2]; omega⟩
theorem vld_bK {B G : Nat → Nat → Bool} {K q h : Nat} (hq : q < K) (w : Nat → Nat) : vldb (bK B q h) G w K = true ↔ vldb B G w K = true ∧ w q = h := by
  unfold vldb bK
  simp only [decide_eq_true_eq, Bool.and_eq_true, Bool.or_eq_true]
  constructor
  · intro e
    refine ⟨fun i hi => ⟨(e i hi).1.1, (e i hi).2⟩, ?_⟩
    rcases (e q hq).1.2 with z | z
    · exact z
    · exact absurd rfl z
  · rintro ⟨e1, e2⟩ i hi
    refine ⟨⟨(e1 i hi).1, ?_⟩, (e1 i hi).2⟩
    by_cases z : i = q
    · rw [z]
      exact Or.inl e2
    · exact Or.inr z
theorem cn_bK {B G : Nat → Nat → Bool} {H K q h : Nat} (hG : trG G K) (hq : q < K) : 0 < cn (bK B q h) G H K 0 w0 ↔ ∃ w', eX B G H K 0 w0 0 w' ∧ w' q = h := by
  rw [cn_pos hG]
  constructor
  · rintro ⟨w', e1, e2⟩
    obtain ⟨e3, e4⟩ := (vld_bK hq w').mp e2
    exact ⟨w', ⟨fun j hj => absurd hj (by omega), (chn_vld hG w').mpr ⟨e1, e3⟩, fun _ => Nat.zero_le _⟩, e4⟩
  · rintro ⟨w', ⟨_, e2, _⟩, e4⟩
    obtain ⟨e5, e6⟩ := (chn_vld hG w').mp e2
    exact ⟨w', e5, (vld_bK hq w').mpr ⟨e6, e4⟩⟩
theorem keep_mask (f : Nat → Bool) {K q : Nat} (hK : K ≤ 8) (hq : q < K) : nI (rb f K) &&& (nI (2 ^ q) ^^^ Int32.ofInt (-1)) = nI (rb (fun i => f i && decide (i ≠ q)) K) := by
  rw [nI_andn _ (rb256 f hK)]
  congr 1
  apply Nat.eq_of_testBit_eq
  intro i
  by_cases h8 : i < 8
  · rw [andn_bit _ _ i h8, rb_bit, rb_bit, Nat.testBit_two_pow]
    by_cases z : i = q
    · rw [z]
      simp
    · have z2 : ¬ q = i := fun y => z y.symm
      simp [z, z2]
  · rw [Nat.testBit_and, tb_hi (rb256 f hK) h8, tb_hi (rb256 _ hK) h8, Bool.false_and]
theorem always5 {l : aL} {x : aN} {q t : Nat} (hk : aLok l) (hq : q < lK l) (hcn : ∀ h, h < lH l → (0 < cn (bK (cbB l x) q h) (cg l x) (lH l) (lK l) 0 w0 ↔ t.testBit h = true)) : ∀ (e h fu : Nat) (m : Nat → Nat → Int32) (f : Int32), h + e = lH l → e < fu → gP l x m → ∃ m', FL_Gu_alwaysAt_52_5 fu m (nI q) f (nI h) = some (match fa t e h f with | .inl v => .inl (v, m') | .inr v => .inr (v, m')) ∧ ∀ k, k ≠ 55 → m' k = m k := by
  have h8 := hk.2.2.1
  have h5 := hk.2.1
  intro e
  induction e with
  | zero =>
    intro h fu m f e1 e2 hg
    obtain ⟨fu, rfl⟩ : ∃ f, fu = f + 1 := ⟨fu - 1, by omega⟩
    rw [FL_Gu_alwaysAt_52_5, hg.1, if_pos (nI_le (by omega) (by omega)), fa]
    exact ⟨m, rfl, fun _ _ => rfl⟩
  | succ e ih =>
    intro h fu m f e1 e2 hg
    obtain ⟨fu, rfl⟩ : ∃ f, fu = f + 1 := ⟨fu - 1, by omega⟩
    obtain ⟨m1, a1, a2⟩ := keep_ok (B' := bK (cbB l x) q h) (x1 := nI (2 ^ q)) (x2 := nI h) hk hg (fun p hp => by
      rw [hg.2.2.1 p hp]
      by_cases z : p = h
      · rw [if_pos (by rw [z])]
        congr 1
        apply rb_cg
        intro i _
        unfold bK
        simp [z]
      · rw [if_neg (fun y => z ((nI_eq (by omega) (by omega)).mp y)), keep_mask _ h8 hq]
        congr 1
        apply rb_cg
        intro i _
        unfold bK
        simp [z])
    have hg1 : gP l x m1 := by
      unfold gP at hg ⊢
      rw [a2 52 (by omega), a2 53 (by omega), a2 54 (by omega)]
      exact hg
    have cle : cn (bK (cbB l x) q h) (cg l x) (lH l) (lK l) 0 w0 ≤ 5 ^ 8 := Nat.le_trans (cn_le _ _ _) (Nat.le_trans (Nat.pow_le_pow_left h5 _) (Nat.pow_le_pow_right (by omega) h8))
    have hc := hcn h (by omega)
    rw [FL_Gu_alwaysAt_52_5, hg.1, if_neg (nI_ge (by omega) (by omega)), nI_shl1 q (by omega), a1, Option.bind_some, nI_1, fa]
    dsimp only
    by_cases z : t.testBit h = true
    · have zz := hc.mpr z
      rw [if_neg (nI_nle zz (by omega)), if_pos z]
      by_cases y : f = Int32.ofInt (-9)
      · rw [if_pos y, if_pos y]
        obtain ⟨m', b1, b2⟩ := ih (h + 1) fu m1 (nI h) (by omega) (by omega) hg1
        exact ⟨m', b1, fun k hk => by rw [b2 k hk, a2 k hk]⟩
      · rw [if_neg y, if_neg y]
        exact ⟨m1, rfl, a2⟩
    · have zz : cn (bK (cbB l x) q h) (cg l x) (lH l) (lK l) 0 w0 = 0 := by
        apply Classical.byContradiction
        intro y
        exact z (hc.mp (by omega))
      rw [zz, if_pos (by decide), if_neg z]
      obtain ⟨m', b1, b2⟩ := ih (h + 1) fu m1 f (by omega) (by omega) hg1
      exact ⟨m', b1, fun k hk => by rw [b2 k hk, a2 k hk]⟩
theorem E_sure {m n : Nat → Nat → Int32} (h : rR m n) (a : Int32) : ∃ r m' n', F_AT_sure m a = some (r, m') ∧ F_Mo_sure n a = some (r, n') ∧ rR m' n' := by
  have hR := h
  have hfu := qFU_big
  obtain ⟨l, x, hz, hs, y1, y2, len, tx, ht, hl, hx, hr, hh, hi1, hi2⟩ := h
  have hk := hl.1
  have h8 := hk.2.2.1
  have h5 := hk.2.1
  have hP : lK l < 2 ^ 30 := by omega
  unfold F_AT_sure F_Mo_sure
  rcases ix a (lK l) hP with h | ⟨q, hq, rfl⟩
  · rw [hasPoint_bad hr.1 hP h, isPoint_bad hl.2.2.2.2.1 hP h]
    exact ⟨_, _, _, rfl, rfl, hR⟩
  · rw [hasPoint_ok hr.1 hP hq, isPoint_ok hl.2.2.2.2.1 hP hq, Option.bind_some, Option.bind_some, if_neg ne1, if_neg ne1]
    obtain ⟨m1, a1, a2, a3⟩ := prepare_ok (l := l) (x := x) ⟨hl.1, hx.1, hl.2.1, hx.2.1, hr⟩
    obtain ⟨n1, th, c1, c2, c3, c4, c5⟩ := ways_ok hl.1 hx.1 hl.2.2 hx.2.2
    obtain ⟨t1, t32⟩ := c2 q hq
    have tG := trG_ok (x := x) hk
    have bits : ∀ h, (th q).testBit h = true ↔ ∃ w', eX (cbB l x) (cg l x) (lH l) (lK l) 0 w0 0 w' ∧ w' q = h := fun h => by
      rw [c3 q hq h, Nat.zero_testBit]
      exact ⟨fun z => z.elim (fun y => Bool.noConfusion y) id, Or.inr⟩
    have tH : th q < 2 ^ lH l := by
      apply Nat.lt_pow_two_of_testBit
      intro i hi
      cases hb : (th q).testBit i with
      | false => rfl
      | true =>
        obtain ⟨w', ⟨_, e2, _⟩, e4⟩ := (bits i).mp hb
        have := (e2 q (by omega) hq).1
        omega
    obtain ⟨m2, b1, b2⟩ := always5 hk hq (t := th q) (fun h hh => by rw [cn_bK tG hq, bits h]) (lH l) 0 qFU m1 (Int32.ofInt (-9)) (by omega) (by omega) a2
    have R2 : rR m2 n1 := rR_fr hR (fun k hk => by rw [b2 k (by omega), a3 k (by omega)]) c4 (fun j hj => c5 j (by omega))
    have sr := sure25 (by omega) t32 t1 5 0 qFU (Int32.ofInt (-5)) (by omega) (by omega)
    have fin := fab (lH l) (by omega) (th q) t32 tH
    have cle : cn (cbB l x) (cg l x) (lH l) (lK l) 0 w0 ≤ 5 ^ 8 := Nat.le_trans (cn_le _ _ _) (Nat.le_trans (Nat.pow_le_pow_left h5 _) (Nat.pow_le_pow_right (by omega) h8))
    have z0 : cn (cbB l x) (cg l x) (lH l) (lK l) 0 w0 = 0 ↔ th q = 0 := by
      constructor
      · intro z
        apply Nat.eq_of_testBit_eq
        intro i
        rw [Nat.zero_testBit]
        cases hb : (th q).testBit i with
        | false => rfl
        | true =>
          obtain ⟨w', ⟨_, e2, _⟩, e4⟩ := (bits i).mp hb
          have := (cn_pos (B := cbB l x) (H := lH l) tG w0).mpr ⟨w', (chn_vld tG w').mp e2⟩
          omega
      · intro z
        apply Classical.byContradiction
        intro y
        obtain ⟨w', e1, e2⟩ := (cn_pos (B := cbB l x) (H := lH l) tG w0).mp (Nat.pos_of_ne_zero y)
        have := (bits (w' q)).mpr ⟨w', ⟨fun j hj => absurd hj (by omega), (chn_vld tG w').mpr ⟨e1, e2⟩, fun _ => Nat.zero_le _⟩, rfl⟩
        rw [z, Nat.zero_testBit] at this
        exact Bool.noConfusion this
    refine ⟨fc (fa (th q) (lH l) 0 (Int32.ofInt (-9))), m2, n1, ?_, ?_, R2⟩
    · unfold F_Gu_alwaysAt_52
      rw [a1, Option.bind_some, show FL_Gu_alwaysAt_52_5 qFU m1 (nI q) (Int32.ofInt (-9)) 0 = _ from b1, Option.bind_some]
      cases fa (th q) (lH l) 0 (Int32.ofInt (-9)) with
      | inl v => rfl
      | inr v => rfl
    · rw [fin, c1, Option.bind_some]
      dsimp only
      by_cases z : th q = 0
      · rw [if_pos z, z0.mpr z, if_pos (show nI 0 = 0 from rfl)]
      · rw [if_neg z, if_neg (nI_ne0 (Nat.pos_of_ne_zero (fun y => z (z0.mp y))) (by omega)), show FL_Mo_sure_25 qFU n1 (nI q) (Int32.ofInt (-5)) 0 = _ from sr]
        rfl
