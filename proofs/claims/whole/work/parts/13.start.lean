/-! from the small machine's answer to the law's start -/
def qM0 : qM := ([], fun _ _ => 0, fun _ _ => 0, fun _ => 0, [])
theorem q_tr_int : ∀ j, j < 6 → (Jvm.Cond.eq (.elem (.static "AlwaysThere" "KIND_TRACE" "[I") (.int (Int32.ofNat j))) (.int (q_tr j))) ∈ flatC (Jvm.Cond.and given_1 narrow_1) := by decide +kernel
theorem q_ab_int : ∀ j, j < 6 → (Jvm.Cond.eq (.elem (.static "AlwaysThere" "KIND_ABOVE" "[I") (.int (Int32.ofNat j))) (.int (q_ab j))) ∈ flatC (Jvm.Cond.and given_1 narrow_1) := by decide +kernel
theorem q_stat {s : State} {args : Array Value} (nm : String) (f : Nat → Int32) (hgv : (Jvm.Cond.and given_1 narrow_1).before args s = true) (hl : (Cond.laysStatic "AlwaysThere" nm "[I").before args s = true) (hini : (Cond.initialized "AlwaysThere").before args s = true)
    (h1 : (Jvm.Cond.arrayOf (.static "AlwaysThere" nm "[I") .int) ∈ flatC (Jvm.Cond.and given_1 narrow_1)) (h2 : (Jvm.Cond.eq (.length (.static "AlwaysThere" nm "[I")) (.int 6)) ∈ flatC (Jvm.Cond.and given_1 narrow_1)) (h3 : ∀ j, j < 6 → (Jvm.Cond.eq (.elem (.static "AlwaysThere" nm "[I") (.int (Int32.ofNat j))) (.int (f j))) ∈ flatC (Jvm.Cond.and given_1 narrow_1)) :
    ∃ t : Nat, va_Z "AlwaysThere" nm "[I" (.ref t) (fun q => s.heap.size ≤ q) s s.heap ∧ va_T .int t 6 (fun j => .int (f j)) (fun q => s.heap.size ≤ q) s s.heap := by
  have hs := flat_of_before _ hgv
  have hA : ∀ a : Nat, a < s.heap.size → ¬ s.heap.size ≤ a := fun a h => Nat.not_le.mpr h
  obtain ⟨t, ht, hT⟩ := va_Tof (tm := .static "AlwaysThere" nm "[I") (ty := .int) (N := 6) (f := fun j => .int (f j)) (A := fun q => s.heap.size ≤ q) (by decide) (hs _ h1) (va_eqt (hs _ h2)) (fun j hj => va_eqt (hs _ (h3 j hj))) hA
  exact ⟨t, va_Zref hl hini ht hA, hT⟩
theorem q_begin {p : Program} {e : Env} {s : State} {m : MethodId} {below : List Frame} {meth : Method} {c : Code} (l : Launch) {b L : Nat} {xs : Nat → Int32} (hL : L ≤ 320) (C0 : lw_At p s m meth c b L xs)
    (hE : ∃ M' : qM, q_Ev (qXT L xs) 60 171 (0, [some (.ref 1000), none, none, none], [], qM0) (some (.int 1), M') ∧ M'.1.length ≤ 600000 ∧ q_sl M' ≤ 7302250) :
    W p l e room_1 s m #[Value.ref b] below meth c s.heap [] 0 0 (lw_Z below #[Value.ref b] s) (entryFrame m ([Value.ref b] : List Value).toArray 4) := by
  obtain ⟨hx, hb, hr, hml, hown, hts, hX, hbl, hlocks, hgv⟩ := C0
  obtain ⟨M', ⟨n, hn⟩, hl1, hl2⟩ := hE
  have htq : ∀ w ∈ q_tbl, w.before #[Value.ref b] s = true := fun w hw => hts w (List.mem_filter.mp hw).1
  have hcl : ∀ ci : Nat, ∃ x : ClassId × (Nat → Nat), ci < 9 → u_Kn s (q_cn ci) (q_T ci) (q_N ci) x.1 x.2 := by
    intro ci
    by_cases h : ci < 9
    · have h2 := List.all_eq_true.mp q_in_all ci (List.mem_range.mpr h)
      simp only [Bool.and_eq_true] at h2
      obtain ⟨cC, iS, h3⟩ := u_known htq (q_lay_in h) (htq _ (q_wat_mem h2.1))
      exact ⟨(cC, iS), fun _ => h3⟩
    · exact ⟨(0, fun _ => 0), fun z => absurd z h⟩
  obtain ⟨cI, kI, cmI, a1, a2, a3⟩ := Cond.arrayClass_spec (htq _ (q_wat_mem q_ar_all.1))
  obtain ⟨cH, kH, cmH, b1, b2, b3⟩ := Cond.arrayClass_spec (htq _ (q_wat_mem q_ar_all.2.1))
  obtain ⟨cZ, kZ, cmZ, d1, d2, d3⟩ := Cond.arrayClass_spec (htq _ (q_wat_mem q_ar_all.2.2))
  obtain ⟨t1, z1, y1⟩ := q_stat "KIND_TRACE" q_tr hgv (hts _ (List.mem_of_getElem? (i := 731) (by decide +kernel))) (hts _ (List.mem_of_getElem? (i := 65) (by decide +kernel))) (by decide +kernel) (by decide +kernel) q_tr_int
  obtain ⟨t2, z2, y2⟩ := q_stat "KIND_ABOVE" q_ab hgv (hts _ (List.mem_of_getElem? (i := 733) (by decide +kernel))) (hts _ (List.mem_of_getElem? (i := 65) (by decide +kernel))) (by decide +kernel) (by decide +kernel) q_ab_int
  obtain ⟨scr, s1, s2, s3, s4, s5⟩ := hX
  have y0 : va_T .int b L (fun j => .int (xs j)) (fun q => s.heap.size ≤ q) s s.heap := ⟨scr, s1, s2, s3, by omega, by rw [s4], s5, Nat.not_le.mpr hbl⟩
  obtain ⟨G, hG⟩ : ∃ G : qG, G = (s.heap.size, fun e => if e = 1000 then b else if e = 1001 then t1 else t2, fun ci => (Classical.choose (hcl ci)).1, fun ci => (Classical.choose (hcl ci)).2, fun t => if t = 100 then cI else if t = 101 then cH else cZ, qXT L xs) := ⟨_, rfl⟩
  have gB : qgB G = s.heap.size := by rw [hG]
  have gT : qgT G = qXT L xs := by rw [hG]
  have hKK : q_KK G s := by
    refine ⟨⟨fun ci q hq => ?_, fun k q hk => ?_⟩, fun e he => ?_, fun e h1 h2 => ?_, fun q hq => ?_, by rw [gB]; exact Nat.le_refl _⟩
    · have h9 : ci < 9 := by
        have := (List.getElem?_eq_some_iff.mp hq).1
        simpa [q_cls] using this
      cases (Option.some.inj (hq.symm.trans (q_cls_at h9)))
      have h3 := Classical.choose_spec (hcl ci) h9
      rw [hG]
      exact h3
    · rw [hG] at hk
      match k, hk with
      | 0, hk => cases hk; exact ⟨fun n z => ⟨fun k h => (by cases h), kI, a2, cmI, a3⟩, a1⟩
      | 1, hk => cases hk; exact ⟨fun n z => ⟨fun k h => (by cases h), kH, b2, cmH, b3⟩, b1⟩
      | 2, hk => cases hk; exact ⟨fun n z => ⟨fun k h => (by cases h), kZ, d2, cmZ, d3⟩, d1⟩
      | k + 3, hk => simp [q_tys] at hk
    · rcases he with rfl | rfl
      · rw [hG]; exact z1
      · rw [hG]; exact z2
    · obtain rfl | rfl | rfl : e = 1000 ∨ e = 1001 ∨ e = 1002 := by omega
      · rw [hG]; exact y0
      · rw [hG]; exact y1
      · rw [hG]; exact y2
    · have h5 := List.all_eq_true.mp q_mn_all q hq
      simp only [decide_eq_true_eq] at h5
      exact va_Nw.of rfl (hts _ (List.mem_of_getElem? h5))
  have hl := lv_entry ([Value.ref b]) (n := 4) (Nat.le_of_ble_eq_true rfl)
  rw [lg_entry_eq]
  generalize (lg_sl ([Value.ref b]) ++ List.replicate (4 - (lg_sl ([Value.ref b])).length) Slot.unset).toArray = ls at hl ⊢
  have hC : q_Cx G p room_1 s m #[Value.ref b] meth c 171 60 := ⟨hx, hb, hr, hml, hown, htq, hlocks, fun h => absurd h (by decide +kernel), hKK, by decide, by decide⟩
  have K := q_sound G l n 60 171 (0, [some (.ref 1000), none, none, none], [], qM0) (some (.int 1)) M' (by rw [gT]; exact hn) p e room_1 s m #[Value.ref b] below meth c hC 600000 7302250 (Nat.le_refl _) (Nat.le_refl _) s.heap [] 0 0 ls ⟨fun k q hk => by simp [q_wl, qM0] at hk, by rw [gB]; rfl, by decide, va_S.rf, hl.1, hl.2.1, rfl, fun i v hi => ?_, fun _ i v hi => ?_⟩ (by show 0 + M'.1.length ≤ 600000 + 0; omega) (by show 0 + q_sl M' ≤ 7302250 + 0; omega)
  · intro T hT X
    obtain ⟨t, st, o, r1, r2, ⟨q1, -⟩, LL, hF, hLf⟩ := K T hT X
    refine ⟨t, st, o, r1, r2, q1, hF.1, hF.2.1, hF.2.2.weaken (fun y hy hlt => ?_) (Nat.le_refl _) (Nat.le_refl _)⟩
    have := hLf y hy
    have this : qgB G ≤ y.base := this
    rw [gB] at this
    exact absurd hlt (Nat.not_lt.mpr this)
  · match i, hi with
    | 0, hi =>
      cases hi
      have h6 := hl.2.2 (0, Value.ref b) (by simp [lv_args])
      have h7 : q_rv G (.ref 1000) = .ref b := by
        show Value.ref (q_ad G 1000) = _
        rw [q_ad_ge (Nat.le_refl _), hG]
        rfl
      rw [h7]
      exact h6
    | 1, hi => cases hi
    | 2, hi => cases hi
    | 3, hi => cases hi
    | i + 4, hi => simp at hi
  · match i, hi with
    | 0, hi => cases hi; rfl
    | 1, hi => cases hi
    | 2, hi => cases hi
    | 3, hi => cases hi
    | i + 4, hi => simp at hi
