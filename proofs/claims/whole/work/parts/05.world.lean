/-! what a memory of the small machine means in the heap -/
/-- the heap's size at the law's start; the addresses of the script and of the two static rows; class numbers, slots, array classes; what the outer rows hold -/
abbrev qG : Type := Nat × (Nat → Nat) × (Nat → ClassId) × (Nat → Nat → Nat) × (Nat → ClassId) × (Nat → Nat × (Nat → Int32))
abbrev qgB (G : qG) : Nat := G.1
abbrev qgX (G : qG) : Nat → Nat := G.2.1
abbrev qgD (G : qG) : va_G := (G.2.2.1, G.2.2.2.1)
abbrev qgA (G : qG) : Nat → ClassId := G.2.2.2.2.1
abbrev qgT (G : qG) : Nat → Nat × (Nat → Int32) := G.2.2.2.2.2
abbrev qgF (G : qG) : Nat → Prop := fun q => qgB G ≤ q
def q_ad (G : qG) (k : Nat) : Nat := if k < 1000 then qgB G + k else qgX G k
def q_rv (G : qG) (v : Value) : Value := match v with
  | .ref k => .ref (q_ad G k)
  | .int x => .int x
  | .long x => .long x
  | .float x => .float x
  | .double x => .double x
  | .null => .null
  | .retAddr x => .retAddr x
theorem q_rv_cat (G : qG) (v : Value) : (q_rv G v).category = v.category := by cases v <;> rfl
def q_ce (G : qG) (M : qM) (k : Nat) (sh : Nat × Nat) : va_E := if sh.1 < 100 then .inr (sh.1, (List.range (q_N sh.1)).map (fun j => q_rv G (q_fv M k sh.1 j))) else .inl (qgA G sh.1, (sh.2, .inl (q_row M k)))
def q_wl (G : qG) (M : qM) : va_W := (List.range M.1.length).map (fun k => (qgB G + k, q_ce G M k (M.1.getD k (0, 0))))
def q_sl (M : qM) : Nat := (M.1.map (fun x => x.2)).sum
def q_tys (G : qG) : List (ClassId × FieldType) := [(qgA G 100, .int), (qgA G 101, .char), (qgA G 102, .boolean)]
def q_KK (G : qG) (U : State) : Prop := va_K (qgD G) q_cls (q_tys G) U ∧ (∀ e, e = 1001 ∨ e = 1002 → va_Z "AlwaysThere" (q_sn e) "[I" (.ref (qgX G e)) (qgF G) U U.heap) ∧ (∀ e, 1000 ≤ e → e < 1003 → va_T .int (qgX G e) (qgT G e).1 (fun j => .int ((qgT G e).2 j)) (qgF G) U U.heap) ∧ (∀ q ∈ q_mn, va_Nw (.methodLinkNest (q_cn q.1) q.2.1 (q_y q.2.2.1) "AlwaysThere") U) ∧ qgB G ≤ U.heap.size
def q_Pc (G : qG) (As : List Value) (M : qM) : Array Value → State → Prop := va_Pc (As.map (q_rv G)) (fun U => va_P (qgD G) q_cls (q_wl G M) U.heap ∧ U.heap.size = qgB G + M.1.length ∧ M.1.length ≤ 1000 ∧ q_KK G U)
def q_Qc (G : qG) (r : Option Value) (M : qM) : Array Value → State → Outcome → State → Prop := fun _ st o t => o = .returned (r.map (q_rv G)) ∧ va_P (qgD G) q_cls (q_wl G M) t.heap ∧ t.heap.size = qgB G + M.1.length ∧ M.1.length ≤ 1000 ∧ ∀ q, q < qgB G → t.heap[q]? = st.heap[q]?
def q_lv (G : qG) (ls : Array Slot) (nL : Nat) (b : Bool) (L : List (Option Value)) : Prop := ls.size = nL ∧ lv_wf ls ∧ L.length = nL ∧ (∀ (i : Nat) (v : Value), L[i]? = some (some v) → ls[i]? = some (.val (q_rv G v))) ∧ (b = false → ∀ (i : Nat) (v : Value), L[i]? = some (some v) → v.category = 1)
theorem q_nth_eq {α : Type} : ∀ (l : List α) (k : Nat), q_nth l k = l[k]?
  | [], k => by simp [q_nth]
  | a :: l, 0 => by simp [q_nth]
  | a :: l, k + 1 => by rw [q_nth, List.getElem?_cons_succ]; exact q_nth_eq l k
theorem q_ld_some {L : List (Option Value)} {i : Nat} {v : Value} (h : q_ld L i = some v) : L[i]? = some (some v) := by
  unfold q_ld at h
  rw [q_nth_eq] at h
  split at h
  · next w hw => cases h; exact hw
  · cases h
theorem q_pm_eq (j k : Nat) : (q_pm j = q_pm k) = (j = k) := by
  have e : ∀ i, q_pm i = if i < 9 then i else if i < 11 then i + 61 else if i < 72 then i - 2 else i := fun i => by
    unfold q_pm
    simp only [Nat.blt_eq, cond_eq_ite]
  apply propext
  rw [e, e]
  constructor
  · intro h
    split at h <;> (try split at h) <;> (try split at h) <;> (try split at h) <;> (try split at h) <;> (try split at h) <;> omega
  · intro h; rw [h]
theorem q_put_sh (M : qM) (k : Nat) (f : Nat → Int32) : (q_put M k f).1 = M.1 := by unfold q_put; cases Nat.blt k 58 <;> rfl
theorem q_row_put (M : qM) (k j : Nat) (f : Nat → Int32) : q_row (q_put M k f) j = if j = k then f else q_row M j := by
  by_cases h : j = k
  · subst h
    rw [if_pos rfl]
    unfold q_row q_put
    cases Nat.blt j 58 <;> simp [va_up]
  · rw [if_neg h]
    unfold q_row q_put
    cases Nat.blt k 58 <;> cases Nat.blt j 58 <;> simp [va_up, h, q_pm_eq]
theorem q_fv_put (M : qM) (k k' ci j : Nat) (f : Nat → Int32) (h : k' ≠ k) : q_fv (q_put M k f) k' ci j = q_fv M k' ci j := by
  unfold q_fv
  rw [q_row_put, if_neg h]
  unfold q_put
  cases Nat.blt k 58 <;> rfl
theorem q_wl_at {G : qG} {M : qM} {k : Nat} {sh : Nat × Nat} (h : M.1[k]? = some sh) : (q_wl G M)[k]? = some (qgB G + k, q_ce G M k sh) := by
  have hk : k < M.1.length := (List.getElem?_eq_some_iff.mp h).1
  unfold q_wl
  rw [List.getElem?_map, List.getElem?_range hk, Option.map_some, List.getD_eq_getElem?_getD, h]
  rfl
theorem q_wl_inv {G : qG} {M : qM} {k : Nat} {x : Nat × va_E} (h : (q_wl G M)[k]? = some x) : ∃ sh, M.1[k]? = some sh ∧ x = (qgB G + k, q_ce G M k sh) := by
  have hk : k < M.1.length := by
    have := (List.getElem?_eq_some_iff.mp h).1
    simpa [q_wl] using this
  have h1 : M.1[k]? = some M.1[k] := List.getElem?_eq_getElem hk
  exact ⟨_, h1, Option.some.inj (h.symm.trans (q_wl_at h1))⟩
theorem q_D (G : qG) (M : qM) : va_D (qgF G) (q_wl G M) := by
  refine ⟨fun i j x y hx hy hxy => ?_, fun k x hx => ?_⟩
  · obtain ⟨_, _, rfl⟩ := q_wl_inv hx
    obtain ⟨_, _, rfl⟩ := q_wl_inv hy
    exact Nat.add_left_cancel hxy
  · obtain ⟨_, _, rfl⟩ := q_wl_inv hx
    exact Nat.le_add_right _ _
theorem q_P_set {G : qG} {M M2 : qM} {k : Nat} {sh : Nat × Nat} {H H1 : Heap} (hP : va_P (qgD G) q_cls (q_wl G M) H) (hk : M.1[k]? = some sh) (hM : M2.1 = M.1) (oq : ∀ q : Nat, q ≠ qgB G + k → H1[q]? = H[q]?) (hne : ∀ (k' : Nat) (sh' : Nat × Nat), k' ≠ k → q_ce G M2 k' sh' = q_ce G M k' sh') (hat : va_at (qgD G) q_cls (qgB G + k, q_ce G M2 k sh) H1) : va_P (qgD G) q_cls (q_wl G M2) H1 := by
  intro i x hx
  obtain ⟨sh', h1, rfl⟩ := q_wl_inv hx
  rw [hM] at h1
  by_cases hi : i = k
  · subst hi
    cases h1.symm.trans hk
    exact hat
  · rw [hne i sh' hi]
    refine (hP i _ (q_wl_at h1)).kept (oq _ ?_)
    show qgB G + i ≠ qgB G + k
    omega
theorem q_P_push {G : qG} {M M2 : qM} {sh : Nat × Nat} {H H1 : Heap} (hP : va_P (qgD G) q_cls (q_wl G M) H) (hM : M2.1 = M.1 ++ [sh]) (oq : ∀ q : Nat, q < qgB G + M.1.length → H1[q]? = H[q]?) (hne : ∀ (k' : Nat) (sh' : Nat × Nat), k' ≠ M.1.length → q_ce G M2 k' sh' = q_ce G M k' sh') (hat : va_at (qgD G) q_cls (qgB G + M.1.length, q_ce G M2 M.1.length sh) H1) : va_P (qgD G) q_cls (q_wl G M2) H1 := by
  intro i x hx
  obtain ⟨sh', h1, rfl⟩ := q_wl_inv hx
  rw [hM] at h1
  by_cases hi : i < M.1.length
  · rw [List.getElem?_append_left hi] at h1
    rw [hne i sh' (by omega)]
    refine (hP i _ (q_wl_at h1)).kept (oq _ ?_)
    show qgB G + i < qgB G + M.1.length
    omega
  · have hl : i < (M.1 ++ [sh]).length := (List.getElem?_eq_some_iff.mp h1).1
    have hi2 : i = M.1.length := by simp at hl; omega
    subst hi2
    rw [List.getElem?_append_right (Nat.le_refl _), Nat.sub_self] at h1
    cases h1
    exact hat
theorem q_KK_moved {G : qG} {s U : State} (h : q_KK G s) (hW : s.WarmedH U.vm) (hq : ∀ q : Nat, q < qgB G → U.heap[q]? = s.heap[q]?) (hz : qgB G ≤ U.heap.size) : q_KK G U := by
  obtain ⟨h1, h2, h3, h4, h5⟩ := h
  refine ⟨h1.moved hW.alike, fun e he => ((h2 e he).moved hW.alike).kept (fun a _ hA => hq a (Nat.not_le.mp hA)), fun e ha hb => ((h3 e ha hb).moved hW.alike).kept (fun a _ hA => hq a (Nat.not_le.mp hA)), fun q hm => va_Nw.warmM hW (h4 q hm), hz⟩
theorem q_Pc_blind (G : qG) (As : List Value) (M : qM) : FrameBlind (q_Pc G As M) := by
  intro a U g mk h
  obtain ⟨h0, h1, h2, h3, h4⟩ := h
  exact ⟨h0, h1, h2, h3, q_KK_moved h4 (State.WarmedH.refl U) (fun _ _ => rfl) h4.2.2.2.2⟩
theorem q_ad_lt {G : qG} {k : Nat} (h : k < 1000) : q_ad G k = qgB G + k := if_pos h
theorem q_ad_ge {G : qG} {k : Nat} (h : 1000 ≤ k) : q_ad G k = qgX G k := if_neg (Nat.not_lt.mpr h)
theorem q_cls_at {ci : Nat} (h : ci < 9) : q_cls[ci]? = some (q_cn ci, q_T ci, q_N ci) := by
  unfold q_cls
  rw [List.getElem?_map, List.getElem?_range h]
  rfl
/-- the locals as the kit lists them -/
def q_prs (G : qG) (L : List (Option Value)) : List (Nat × Value) := (List.range L.length).filterMap (fun i => (q_ld L i).map (fun v => (i, q_rv G v)))
theorem q_prs_mem {G : qG} {L : List (Option Value)} {i : Nat} {w : Value} : (i, w) ∈ q_prs G L ↔ ∃ v, L[i]? = some (some v) ∧ w = q_rv G v := by
  unfold q_prs
  rw [List.mem_filterMap]
  constructor
  · rintro ⟨j, hj, h⟩
    cases hl : q_ld L j with
    | none => rw [hl] at h; cases h
    | some v =>
      rw [hl] at h
      cases h
      exact ⟨v, q_ld_some hl, rfl⟩
  · rintro ⟨v, hv, rfl⟩
    refine ⟨i, List.mem_range.mpr (List.getElem?_eq_some_iff.mp hv).1, ?_⟩
    unfold q_ld
    rw [q_nth_eq, hv]
    rfl
theorem q_lv_has {G : qG} {ls : Array Slot} {nL : Nat} {b : Bool} {L : List (Option Value)} (h : q_lv G ls nL b L) : lv_has ls nL (q_prs G L) := by
  refine ⟨h.1, h.2.1, fun q hq => ?_⟩
  obtain ⟨i, w⟩ := q
  obtain ⟨v, hv, rfl⟩ := q_prs_mem.mp hq
  exact h.2.2.2.1 i v hv
theorem q_ok1_spec {L : List (Option Value)} {i j : Nat} {v : Value} (h : q_ok1 L i = true) (hj : j + 1 = i) (hv : L[j]? = some (some v)) : v.category = 1 := by
  subst hj
  unfold q_ok1 at h
  dsimp only at h
  rw [q_nth_eq, hv] at h
  exact Nat.eq_of_beq_eq_true h
theorem q_st1_spec {L L' : List (Option Value)} {i : Nat} {v : Value} (h : q_st1 L i v = some L') : L' = L.set i (some v) ∧ i < L.length := by
  unfold q_st1 at h
  cases hc : Nat.blt i L.length with
  | false => rw [hc] at h; cases h
  | true =>
    rw [hc] at h
    exact ⟨(Option.some.inj h).symm, Nat.le_of_ble_eq_true hc⟩
theorem q_st1c_spec {L L' : List (Option Value)} {i : Nat} {v : Value} (h : q_st1c L i v = some L') : q_st1 L i v = some L' ∧ q_ok1 L i = true := by
  unfold q_st1c at h
  cases hc : (Nat.blt i L.length && q_ok1 L i) with
  | false => rw [hc] at h; cases h
  | true =>
    rw [hc] at h
    simp only [Bool.and_eq_true] at hc
    refine ⟨?_, hc.2⟩
    unfold q_st1
    rw [hc.1]
    exact h
theorem q_ok1_of {L : List (Option Value)} {i : Nat} (h : ∀ (j : Nat) (v : Value), j + 1 = i → L[j]? = some (some v) → v.category = 1) : q_ok1 L i = true := by
  unfold q_ok1
  cases i with
  | zero => rfl
  | succ j =>
    dsimp only
    rw [q_nth_eq]
    cases hl : L[j]? with
    | none => rfl
    | some w =>
      cases w with
      | none => rfl
      | some v =>
        dsimp only
        rw [h j v rfl hl]
        rfl
theorem q_ok1_lv {G : qG} {ls : Array Slot} {nL : Nat} {L : List (Option Value)} {i : Nat} (h : q_lv G ls nL false L) : q_ok1 L i = true := q_ok1_of (fun j v _ hv => h.2.2.2.2 rfl j v hv)
theorem q_ok1_int {G : qG} {ls : Array Slot} {nL : Nat} {b : Bool} {L : List (Option Value)} {i : Nat} {x : Value} (h : q_lv G ls nL b L) (hx : L[i]? = some (some x)) : q_ok1 L i = true := by
  refine q_ok1_of (fun j v hj hv => ?_)
  rcases lv_cat v with z | z
  · exact z
  · exfalso
    have h1 := h.2.2.2.1 j v hv
    have h2 := h.2.1.1 j _ h1 (by rw [q_rv_cat]; exact z)
    have h3 := h.2.2.2.1 i x hx
    rw [← hj, h2] at h3
    cases h3
theorem q_st2_spec {L L' : List (Option Value)} {i : Nat} {v : Value} (h : q_st2 L i v = some L') : L' = (L.set i (some v)).set (i + 1) none ∧ i + 1 < L.length ∧ q_ok1 L i = true := by
  unfold q_st2 at h
  cases hc : (Nat.blt (i + 1) L.length && q_ok1 L i) with
  | false => rw [hc] at h; cases h
  | true =>
    rw [hc] at h
    simp only [Bool.and_eq_true] at hc
    exact ⟨(Option.some.inj h).symm, Nat.le_of_ble_eq_true hc.1, hc.2⟩
theorem q_lv_st1 {G : qG} {ls ls0 : Array Slot} {nL : Nat} {b : Bool} {L L' : List (Option Value)} {i : Nat} {v : Value} (h0 : q_lv G ls0 nL b L) (ho : q_ok1 L i = true) (hv1 : v.category = 1) (h : q_st1 L i v = some L') (hh : lv_has ls nL ((i, q_rv G v) :: (q_prs G L).filter (fun q => !(q.1 == i) && !(q.1 + 1 == i && q.2.category == 2)))) : q_lv G ls nL b L' := by
  obtain ⟨rfl, hi⟩ := q_st1_spec h
  refine ⟨hh.1, hh.2.1, by rw [List.length_set]; exact h0.2.2.1, fun j w hj => ?_, fun hb j w hj => ?_⟩
  rotate_left
  · by_cases hji : j = i
    · subst hji
      rw [List.getElem?_set_self hi] at hj
      cases hj
      exact hv1
    · rw [List.getElem?_set_ne (Ne.symm hji)] at hj
      exact h0.2.2.2.2 hb j w hj
  by_cases hji : j = i
  · subst hji
    rw [List.getElem?_set_self hi] at hj
    cases hj
    exact hh.2.2 _ List.mem_cons_self
  · rw [List.getElem?_set_ne (Ne.symm hji)] at hj
    refine hh.2.2 (j, q_rv G w) (List.mem_cons_of_mem _ (List.mem_filter.mpr ⟨q_prs_mem.mpr ⟨w, hj, rfl⟩, ?_⟩))
    have h2 : ¬ (j + 1 = i ∧ (q_rv G w).category = 2) := fun z => by
      have := q_ok1_spec ho z.1 hj
      rw [q_rv_cat] at z
      omega
    by_cases h3 : j + 1 = i
    · have h4 : ¬ (q_rv G w).category = 2 := fun z => h2 ⟨h3, z⟩
      simp [hji, h4]
    · simp [hji, h3]
theorem q_lv_st2 {G : qG} {ls : Array Slot} {nL : Nat} {b : Bool} (hbt : b = true) {L L' : List (Option Value)} {i : Nat} {v : Value} (hl : L.length = nL) (h : q_st2 L i v = some L') (hh : lv_has ls nL ((i, q_rv G v) :: (q_prs G L).filter (fun q => !(q.1 == i) && (!(q.1 == i + 1) && !(q.1 + 1 == i && q.2.category == 2))))) : q_lv G ls nL b L' := by
  obtain ⟨rfl, hi, ho⟩ := q_st2_spec h
  refine ⟨hh.1, hh.2.1, by rw [List.length_set, List.length_set]; exact hl, fun j w hj => ?_, fun hb => by rw [hbt] at hb; cases hb⟩
  by_cases hj1 : j = i + 1
  · subst hj1
    rw [List.getElem?_set_self (by rw [List.length_set]; exact hi)] at hj
    cases hj
  rw [List.getElem?_set_ne (Ne.symm hj1)] at hj
  by_cases hji : j = i
  · subst hji
    rw [List.getElem?_set_self (by omega)] at hj
    cases hj
    exact hh.2.2 _ List.mem_cons_self
  · rw [List.getElem?_set_ne (Ne.symm hji)] at hj
    refine hh.2.2 (j, q_rv G w) (List.mem_cons_of_mem _ (List.mem_filter.mpr ⟨q_prs_mem.mpr ⟨w, hj, rfl⟩, ?_⟩))
    have h2 : ¬ (j + 1 = i ∧ (q_rv G w).category = 2) := fun z => by
      have := q_ok1_spec ho z.1 hj
      rw [q_rv_cat] at z
      omega
    by_cases h3 : j + 1 = i
    · have h4 : ¬ (q_rv G w).category = 2 := fun z => h2 ⟨h3, z⟩
      simp [hji, hj1, h4]
    · simp [hji, hj1, h3]
theorem q_split_spec : ∀ (n : Nat) (st acc As rest : List Value), q_split n st acc = some (As, rest) → ∃ X, As = X ++ acc ∧ X.length = n ∧ st = X.reverse ++ rest
  | 0, st, acc, As, rest, h => by
    unfold q_split at h
    cases h
    exact ⟨[], rfl, rfl, rfl⟩
  | n + 1, [], acc, As, rest, h => by unfold q_split at h; cases h
  | n + 1, v :: st, acc, As, rest, h => by
    unfold q_split at h
    obtain ⟨X, h1, h2, h3⟩ := q_split_spec n st (v :: acc) As rest h
    refine ⟨X ++ [v], by rw [h1]; simp, by simp [h2], ?_⟩
    rw [h3]
    simp
theorem q_split0 {n : Nat} {st As rest : List Value} (h : q_split n st [] = some (As, rest)) : As.length = n ∧ st = As.reverse ++ rest := by
  obtain ⟨X, h1, h2, h3⟩ := q_split_spec n st [] As rest h
  rw [List.append_nil] at h1
  subst h1
  exact ⟨h2, h3⟩
/-- the locals with which a method begins -/
theorem q_args_mem (G : qG) : ∀ (As : List Value) (o i : Nat) (v : Value), q_one As = true → As[i]? = some v → (o + i, q_rv G v) ∈ lv_args o (As.map (q_rv G))
  | [], o, i, v, _, h => by simp at h
  | a :: As, o, i, v, h1, h => by
    unfold q_one at h1
    rw [List.all_cons, Bool.and_eq_true] at h1
    have hc : a.category = 1 := Nat.eq_of_beq_eq_true h1.1
    rw [List.map_cons, lv_args, q_rv_cat, if_neg (by omega)]
    cases i with
    | zero =>
      rw [List.getElem?_cons_zero] at h
      cases h
      exact List.mem_cons_self
    | succ i =>
      rw [List.getElem?_cons_succ] at h
      have := q_args_mem G As (o + 1) i v h1.2 h
      rw [show o + (i + 1) = o + 1 + i by omega]
      exact List.mem_cons_of_mem _ this
theorem q_sl_len (G : qG) : ∀ (As : List Value), q_one As = true → (lg_sl (As.map (q_rv G))).length = As.length
  | [], _ => rfl
  | a :: As, h1 => by
    unfold q_one at h1
    rw [List.all_cons, Bool.and_eq_true] at h1
    have hc : a.category = 1 := Nat.eq_of_beq_eq_true h1.1
    have ih := q_sl_len G As h1.2
    unfold lg_sl at ih ⊢
    rw [List.map_cons, List.flatMap_cons, q_rv_cat, if_neg (by omega), List.length_append, ih]
    simp
    omega
theorem q_sum_eq (G : qG) (st : List Value) : ((st.map (q_rv G)).map (fun v => v.category)).sum = q_sum st := by
  unfold q_sum
  rw [List.map_map]
  congr 1
  apply List.map_congr_left
  intro v _
  exact q_rv_cat G v
