/-! memory: fields, arrays, new cells -/
def q_lyL : List (List Nat) := [[326, 328, 330, 332, 334], [254, 256, 258], [148, 150, 152, 154, 156, 158, 160, 162, 164, 166, 168], [227, 229, 231, 233, 235, 237, 239, 241], [183, 185, 187, 189, 191, 193, 195], [282, 284, 286, 288, 290, 292], [308, 310, 312], [348, 350, 352, 354, 356, 358, 360, 362, 364, 366], [855, 857, 859, 861, 863, 865, 867, 869, 871, 873, 875, 877, 879, 881, 883, 885, 887, 889, 891, 893, 895]]
theorem q_lay2 : ∀ ci, ci < 9 → ∀ j, j < q_N ci → q_wat ((q_lyL.getD ci []).getD j 0) (u_lay (q_cn ci) (q_T ci) j) = true := by decide +kernel
theorem q_lay_in {ci : Nat} (h : ci < 9) : ∀ w ∈ u_ws (q_cn ci) (q_T ci) (q_N ci), w ∈ q_tbl := by
  intro w hw
  obtain ⟨j, hj, rfl⟩ := List.mem_map.mp hw
  exact q_wat_mem (q_lay2 ci h j (List.mem_range.mp hj))
theorem q_in_vp {i : Int32} {n : Nat} (h : q_in i n = true) : vp_in i n := by
  unfold q_in at h
  simp only [Bool.not_eq_true', Bool.or_eq_false_iff, decide_eq_false_iff_not] at h
  exact fun z => z.elim h.1 h.2
theorem q_ce_obj {G : qG} {M : qM} {k ci sz : Nat} (h : ci < 9) : q_ce G M k (ci, sz) = .inr (ci, (List.range (q_N ci)).map (fun j => q_rv G (q_fv M k ci j))) := if_pos (by show ci < 100; omega)
theorem q_ce_arr {G : qG} {M : qM} {k t sz : Nat} (h : 100 ≤ t) : q_ce G M k (t, sz) = .inl (qgA G t, (sz, .inl (q_row M k))) := if_neg (by show ¬ t < 100; omega)
theorem q_fs_at {G : qG} {M : qM} {k ci N j : Nat} (h : j < N) : ((List.range N).map (fun j => q_rv G (q_fv M k ci j)))[j]? = some (q_rv G (q_fv M k ci j)) := by
  rw [List.getElem?_map, List.getElem?_range h]
  rfl
theorem q_fs_V {G : qG} {M : qM} {k ci N j : Nat} (h : j < N) : vp_V ((List.range N).map (fun j => q_rv G (q_fv M k ci j))) j = q_rv G (q_fv M k ci j) := by
  unfold vp_V
  rw [List.getD_eq_getElem?_getD, q_fs_at h]
  rfl
theorem q_fl_spec {o i e x : Nat} (h : q_fnd q_fl o i = some (e, x)) : q_flc o i e ∈ q_tbl ∧ e / 100 < 9 ∧ e % 100 < q_N (e / 100) := by
  have h1 := List.all_eq_true.mp q_fl_all _ (q_fnd_mem h)
  simp only [Bool.and_eq_true] at h1
  exact ⟨q_wat_mem h1.1, Nat.le_of_ble_eq_true h1.2.1, Nat.le_of_ble_eq_true h1.2.2⟩
theorem q_ce_put {G : qG} {M : qM} {k k' : Nat} {sh : Nat × Nat} {f : Nat → Int32} (h : k' ≠ k) : q_ce G (q_put M k f) k' sh = q_ce G M k' sh := by
  unfold q_ce
  rw [q_row_put, if_neg h]
  simp only [q_fv_put M k k' _ _ f h]
theorem q_ce_lput {G : qG} {M : qM} {k k' : Nat} {sh : Nat × Nat} {x : Int64} (h : k' ≠ k) : q_ce G (q_lput M k x) k' sh = q_ce G M k' sh := by
  unfold q_ce q_lput q_fv q_row
  simp [va_up, h, q_pm_eq]
theorem q_rg_cons (l : List (Nat × Nat × Nat)) (a b r k j : Nat) : q_rg ((a, b, r) :: l) k j = if k = a ∧ j = b then some r else q_rg l k j := by
  show cond (Nat.beq a k && Nat.beq b j) (some r) (q_rg l k j) = _
  by_cases h1 : k = a
  · by_cases h2 : j = b
    · subst h1; subst h2
      simp
    · rw [if_neg (fun z => h2 z.2)]
      have : Nat.beq b j = false := by
        cases hz : Nat.beq b j with
        | false => rfl
        | true => exact absurd (Nat.eq_of_beq_eq_true hz).symm h2
      rw [this, Bool.and_false]
      rfl
  · rw [if_neg (fun z => h1 z.1)]
    have : Nat.beq a k = false := by
      cases hz : Nat.beq a k with
      | false => rfl
      | true => exact absurd (Nat.eq_of_beq_eq_true hz).symm h1
    rw [this, Bool.false_and]
    rfl
theorem q_rg_filter (n : Nat) : ∀ (l : List (Nat × Nat × Nat)) (k j : Nat), q_rg (l.filter (fun x => !(Nat.beq x.1 n))) k j = if k = n then none else q_rg l k j
  | [], k, j => by simp [q_rg]
  | (a, b, r) :: l, k, j => by
    rw [List.filter_cons]
    cases hz : Nat.beq a n with
    | true =>
      have hz := Nat.eq_of_beq_eq_true hz
      rw [if_neg (by simp [hz]), q_rg_filter n l k j]
      by_cases hk : k = n
      · rw [if_pos hk, if_pos hk]
      · rw [if_neg hk, if_neg hk, q_rg_cons, if_neg (fun z => hk (z.1.trans hz))]
    | false =>
      have hz2 : a ≠ n := fun z => by rw [z] at hz; simp at hz
      rw [if_pos (by simp [hz2]), q_rg_cons, q_rg_filter n l k j, q_rg_cons]
      by_cases hk : k = n
      · rw [if_pos hk, if_pos hk, if_neg (fun z => hz2 (z.1.symm.trans hk))]
      · rw [if_neg hk, if_neg hk]
theorem q_ce_rput {G : qG} {M : qM} {k k' j : Nat} {sh : Nat × Nat} {x : Nat} (h : k' ≠ k) : q_ce G (q_rput M k j x) k' sh = q_ce G M k' sh := by
  unfold q_ce q_rput q_fv q_row
  simp [q_rg_cons, h]
theorem q_sl_eq {M M2 : qM} (h : M2.1 = M.1) : q_sl M2 = q_sl M := by unfold q_sl; rw [h]
section QJ
variable {G : qG} {p : Program} {l : Launch} {e : Env} {R : Room} {s : State} {m : MethodId} {args : Array Value} {below : List Frame} {meth : Method} {c : Code} {mi d mc ms nM sM : Nat} {Q : State → Prop} {pc n : Nat} {L : List (Option Value)} {st : List Value} {M : qM} {a : qR}
theorem qi_getfield {i f x : Nat} (hv : q_fnd q_fl (q_rc mi) i = some (f, x)) (C : q_Cx G p R s m args meth c mi d) (hd : decode (q_by mi) pc = .ok (.getfield i, n)) (hn : n = 3) (ha : q_do (qgT G) pc L st M (.getfield f) n = some a) : q_Gd G p l e R s m args below meth c mi mc ms nM sM Q a (pc, L, st, M) := by
  subst hn
  unfold q_do at ha
  dsimp only at ha
  split at ha
  · next k r =>
    unfold q_get at ha
    split at ha
    · next ci sz hk =>
      rw [q_nth_eq] at hk
      cases hb : Nat.beq ci (f / 100) with
      | false => rw [hb] at ha; cases ha
      | true =>
        rw [hb] at ha
        cases ha
        obtain ⟨hw, h9, hj⟩ := q_fl_spec hv
        have hci : ci = f / 100 := Nat.eq_of_beq_eq_true hb
        rw [← hci] at h9 hj
        refine ⟨_, rfl, fun _ _ K H locs cells slots ls hA hc hs => ?_⟩
        have K := K H locs cells slots ls hA hc hs
        have hlt : k < 1000 := Nat.lt_of_lt_of_le (List.getElem?_eq_some_iff.mp hk).1 hA.2.2.1
        have he := q_wl_at (G := G) hk
        rw [q_ce_obj h9] at he
        have eS : (Value.ref k :: r).map (q_rv G) = .ref (qgB G + k) :: r.map (q_rv G) := by
          rw [List.map_cons]
          show Value.ref (q_ad G k) :: _ = _
          rw [q_ad_lt hlt]
        show W p l e R s m args below meth c H locs cells slots Q (F0 m pc ls ((Value.ref k :: r).map (q_rv G)))
        rw [eS]
        have hl := C.2.2.2.2.2.1 _ hw
        unfold q_flc at hl
        rw [← hci] at hl
        exact va_get C.1 C.2.1 C.2.2.2.2.2.1 (q_lay_in h9) C.2.2.2.2.1 C.2.2.2.2.2.2.2.2.1.1 hA.1 k he (q_cls_at h9) (f % 100) hj hl (fun _ h => h) (q_fs_at hj) hd K
    · cases ha
  · cases ha
/-- a field is written -/
theorem q_wr_core {i f x k ci sz : Nat} {v : Value} {M2 : qM} {r : List Value} (hv : q_fnd q_fl (q_rc mi) i = some (f, x)) (C : q_Cx G p R s m args meth c mi d) (hd : decode (q_by mi) pc = .ok (.putfield i, 3)) (hk : M.1[k]? = some (ci, sz)) (hci : ci = f / 100) (hfin : q_fin f = false ∨ ((q_y mi).name = "<init>" ∧ q_rc mi = f / 100))
    (hnar : narrow (q_ft ci (f % 100)) (q_rv G v) = q_rv G v) (hfit : fits (q_ft ci (f % 100)) (q_rv G v) = true) (hM : M2.1 = M.1) (hne : ∀ (k' : Nat) (sh' : Nat × Nat), k' ≠ k → q_ce G M2 k' sh' = q_ce G M k' sh') (hnew : ∀ j, j < q_N ci → q_fv M2 k ci j = if j = f % 100 then v else q_fv M k ci j)
    (K : q_TT G p l e R s m args below meth c mi mc ms nM sM Q (pc + 3, L, r, M2)) : q_TT G p l e R s m args below meth c mi mc ms nM sM Q (pc, L, v :: .ref k :: r, M) := by
  intro H locs cells slots ls hA hc hs
  obtain ⟨hw, h9, hj⟩ := q_fl_spec hv
  rw [← hci] at h9 hj
  have hts := C.2.2.2.2.2.1
  have hown := C.2.2.2.2.1
  have hK := C.2.2.2.2.2.2.2.2.1.1
  have hl := hts _ hw
  unfold q_flc at hl
  rw [← hci] at hl
  have hlt : k < 1000 := Nat.lt_of_lt_of_le (List.getElem?_eq_some_iff.mp hk).1 hA.2.2.1
  have he := q_wl_at (G := G) hk
  rw [q_ce_obj h9] at he
  have hap := va_apart (own := q_own mi) hts (q_lay_in h9) (q_ft ci) (q_ft_all ci h9) (q_nm_all ci h9) hK (q_cls_at h9)
  obtain ⟨rr, h1, cell, q1, q2, q3, q4⟩ := hA.1 k _ he
  cases (Option.some.inj (h1.symm.trans (q_cls_at h9)))
  obtain ⟨hS, hfc, kC, hkC, hkind⟩ := hK.1 ci _ (q_cls_at h9)
  obtain ⟨cf, kf, fi, fd, hi, hsl⟩ := hS (f % 100) hj
  have hst := (u_facts hfc hkC (u_lays hts (q_lay_in h9) hj) hi).1
  have hlay := hts _ (q_lay_in h9 _ (u_in_lay hj))
  have eS : (v :: Value.ref k :: r).map (q_rv G) = q_rv G v :: .ref (qgB G + k) :: r.map (q_rv G) := by
    rw [List.map_cons, List.map_cons]
    show _ :: Value.ref (q_ad G k) :: _ = _
    rw [q_ad_lt hlt]
  show W p l e R s m args below meth c H locs cells slots Q (F0 m pc ls ((v :: Value.ref k :: r).map (q_rv G)))
  rw [eS]
  have fin : ∀ H' : Heap, H'[qgB G + k]? = some (cell.setSlot fd.slot (q_rv G v)) → H'.size = H.size → (∀ q, q ≠ qgB G + k → H'[q]? = H[q]?) → W p l e R s m args below meth c H' (locs ++ [⟨qgB G + k, fd.slot⟩]) cells slots Q (F0 m (pc + 3) ls (r.map (q_rv G))) := by
    intro H' e1 e2 e3
    refine K H' _ cells slots ls ⟨q_P_set hA.1 hk hM e3 hne ?_, by rw [e2, hA.2.1, hM], by rw [hM]; exact hA.2.2.1, hA.2.2.2.1.put e2 e3 (Nat.le_add_right _ _), hA.2.2.2.2⟩ (by show _ ≤ mc + M2.1.length; rw [hM]; exact hc) (by show _ ≤ ms + q_sl M2; rw [q_sl_eq hM]; exact hs)
    rw [q_ce_obj h9]
    refine ⟨_, q_cls_at h9, ?_⟩
    rw [hsl] at e1
    refine t_OB.to (V := updV (vp_V ((List.range (q_N ci)).map (fun j => q_rv G (q_fv M k ci j)))) (f % 100) (q_rv G v)) ⟨_, e1, q2, q3, t_set q4 hap hj (q_rv G v)⟩ (fun j hj2 => ?_)
    have hj2 : j < q_N ci := hj2
    show updV _ _ _ j = vp_V _ j
    rw [q_fs_V hj2, hnew j hj2]
    unfold updV
    by_cases hjf : j = f % 100
    · rw [if_pos hjf, if_pos hjf]
    · rw [if_neg hjf, if_neg hjf, q_fs_V hj2]
  have hT : (q_T ci (f % 100)).2.2.2 = q_fin f := by unfold q_fin; rw [hci]
  cases hb : q_fin f with
  | false =>
    unfold u_lay at hlay
    rw [if_neg (by rw [hT, hb]; decide)] at hlay
    exact W.putK C.1 C.2.1 (f := fd) ⟨hown, hl, ⟨_, _, _, hi⟩, hst⟩ (by rw [q2]; exact u_store hfc hkC hkind hlay hi (q_ft_all ci h9 _ hj) hnar hfit) q1 q3 (by rw [hsl]; exact k2_hasslot (q4 _ hj)) rfl rfl hd fin
  | true =>
    rcases hfin with hfin | ⟨hf1, hf2⟩
    · rw [hb] at hfin; cases hfin
    · unfold u_lay at hlay
      rw [if_pos (by rw [hT, hb])] at hlay
      have hcf : m.cls = cf := by
        obtain ⟨_, _, c', _, _, _, -, -, hf', -, -, -, hown2, -⟩ := Cond.laysFinal_spec hlay
        have e1 : c' = cf := by have := hi.symm.trans hf'; simp at this; exact this.1.symm
        rw [q_dc_all ci h9 _ hj, hci, ← hf2] at hown2
        rw [← e1]
        exact Option.some.inj (hown.symm.trans hown2)
      exact W.putFinK C.1 C.2.1 hown hl hi hst hcf (C.2.2.2.2.2.2.2.1 hf1) (by rw [q2]; exact u_fits hfc hkC hkind (Or.inr hlay) hi (q_ft_all ci h9 _ hj) hnar hfit) q1 q3 (by rw [hsl]; exact k2_hasslot (q4 _ hj)) rfl rfl hd fin
theorem q_fk_ty {ci j : Nat} (h9 : ci < 9) (hj : j < q_N ci) : (q_fk ci j = 0 → q_ft ci j = .int) ∧ (q_fk ci j = 1 → q_ft ci j = .long) ∧ (q_fk ci j = 3 → q_ft ci j = .boolean) ∧ (q_fk ci j = 2 → ∀ b, narrow (q_ft ci j) (.ref b) = .ref b ∧ fits (q_ft ci j) (.ref b) = true) := by
  have h := q_fk_all ci h9 j hj
  refine ⟨fun z => ?_, fun z => ?_, fun z => ?_, fun z b => ?_⟩
  · rcases h with h | h | h | h
    · exact h.2
    all_goals (rw [z] at h; exact absurd h.1 (by decide))
  · rcases h with h | h | h | h
    · rw [z] at h; exact absurd h.1 (by decide)
    · exact h.2
    all_goals (rw [z] at h; exact absurd h.1 (by decide))
  · rcases h with h | h | h | h
    · rw [z] at h; exact absurd h.1 (by decide)
    · rw [z] at h; exact absurd h.1 (by decide)
    · exact h.2
    · rw [z] at h; exact absurd h.1 (by decide)
  · rcases h with h | h | h | h
    · rw [z] at h; exact absurd h.1 (by decide)
    · rw [z] at h; exact absurd h.1 (by decide)
    · rw [z] at h; exact absurd h.1 (by decide)
    · obtain ⟨-, -, -, h4⟩ := h
      revert h4
      cases q_ft ci j <;> simp [narrow, fits]
theorem q_fv_int {M : qM} {k ci j : Nat} {x : Int32} {j0 : Nat} (h0 : q_fk ci j0 = 0 ∨ q_fk ci j0 = 3) : q_fv (q_put M k (upd (q_row M k) j0 x)) k ci j = if j = j0 then .int x else q_fv M k ci j := by
  by_cases hj : j = j0
  · subst hj
    rw [if_pos rfl]
    unfold q_fv
    rcases h0 with h0 | h0 <;> rw [h0] <;> simp only [q_row_put, if_pos] <;> simp [upd]
  · rw [if_neg hj]
    unfold q_fv
    have e1 : q_row (q_put M k (upd (q_row M k) j0 x)) k j = q_row M k j := by rw [q_row_put, if_pos rfl]; simp [upd, hj]
    rw [e1]
    unfold q_put
    cases Nat.blt k 58 <;> rfl
theorem q_fk1_uniq : ∀ ci, ci < 9 → ∀ j, j < q_N ci → ∀ j2, j2 < q_N ci → q_fk ci j = 1 → q_fk ci j2 = 1 → j = j2 := by decide +kernel
theorem qi_putfield {i f x : Nat} (hv : q_fnd q_fl (q_rc mi) i = some (f, x)) (hfin : q_fin f = false ∨ ((q_y mi).name = "<init>" ∧ q_rc mi = f / 100)) (C : q_Cx G p R s m args meth c mi d) (hd : decode (q_by mi) pc = .ok (.putfield i, n)) (hn : n = 3) (ha : q_do (qgT G) pc L st M (.putfield f) n = some a) : q_Gd G p l e R s m args below meth c mi mc ms nM sM Q a (pc, L, st, M) := by
  subst hn
  unfold q_do at ha
  dsimp only at ha
  split at ha
  · next v k r =>
    unfold q_set at ha
    split at ha
    · next ci sz hk =>
      rw [q_nth_eq] at hk
      cases hb : Nat.beq ci (f / 100) with
      | false => rw [hb] at ha; cases ha
      | true =>
        rw [hb] at ha
        have hci : ci = f / 100 := Nat.eq_of_beq_eq_true hb
        obtain ⟨hw, h9, hj⟩ := q_fl_spec hv
        rw [← hci] at h9 hj
        have ty := q_fk_ty h9 hj
        dsimp only [cond_true] at ha
        split at ha
        · next x =>
          split at ha
          · next hk0 =>
            cases ha
            exact ⟨_, rfl, fun _ _ K => q_wr_core hv C hd hk hci hfin (by rw [ty.1 hk0]; rfl) (by rw [ty.1 hk0]; rfl) (q_put_sh _ _ _) (fun k' sh' h => q_ce_put h) (fun j _ => q_fv_int (Or.inl hk0)) K⟩
          · next hk3 =>
            cases hx : q_bl x with
            | false => rw [hx] at ha; cases ha
            | true =>
              rw [hx] at ha
              cases ha
              have hq := q_bl_eq hx
              exact ⟨_, rfl, fun _ _ K => q_wr_core hv C hd hk hci hfin (by rw [ty.2.2.1 hk3]; exact hq.1) (by rw [ty.2.2.1 hk3]; exact hq.2.2) (q_put_sh _ _ _) (fun k' sh' h => q_ce_put h) (fun j _ => q_fv_int (Or.inr hk3)) K⟩
          · cases ha
        · next x =>
          split at ha
          · next hk1 =>
            cases ha
            refine ⟨_, rfl, fun _ _ K => q_wr_core (M2 := q_lput M k x) hv C hd hk hci hfin (by rw [ty.2.1 hk1]; rfl) (by rw [ty.2.1 hk1]; rfl) rfl (fun k' sh' h => q_ce_lput h) (fun j hj2 => ?_) K⟩
            by_cases hjj : j = f % 100
            · rw [if_pos hjj, hjj]
              unfold q_fv q_lput
              rw [hk1]
              simp [va_up]
            · rw [if_neg hjj]
              have hne : q_fk ci j ≠ 1 := fun z => hjj (q_fk1_uniq ci h9 j hj2 (f % 100) hj z hk1)
              unfold q_fv q_lput
              split
              · next z => exact absurd z hne
              · rfl
              · rfl
          · cases ha
        · next b =>
          split at ha
          · next hk2 =>
            cases ha
            refine ⟨_, rfl, fun _ _ K => q_wr_core (M2 := q_rput M k (f % 100) b) hv C hd hk hci hfin ((ty.2.2.2 hk2 _).1) ((ty.2.2.2 hk2 _).2) rfl (fun k' sh' h => q_ce_rput h) (fun j hj2 => ?_) K⟩
            by_cases hjj : j = f % 100
            · rw [if_pos hjj, hjj]
              unfold q_fv q_rput
              rw [hk2]
              simp [q_rg_cons, q_ref]
            · rw [if_neg hjj]
              unfold q_fv q_rput
              simp [q_rg_cons, hjj, q_row]
          · cases ha
        · cases ha
    · cases ha
  · cases ha
theorem qi_getstatic {i f x : Nat} (hv : q_fnd q_fs (q_rc mi) i = some (f, x)) (C : q_Cx G p R s m args meth c mi d) (hd : decode (q_by mi) pc = .ok (.getstatic i, n)) (hn : n = 3) (ha : q_do (qgT G) pc L st M (.getstatic f) n = some a) : q_Gd G p l e R s m args below meth c mi mc ms nM sM Q a (pc, L, st, M) := by
  subst hn
  cases ha
  have h1 := List.all_eq_true.mp q_fs_all _ (q_fnd_mem hv)
  simp only [Bool.and_eq_true, Bool.or_eq_true] at h1
  have hf : f = 1001 ∨ f = 1002 := h1.2.imp Nat.eq_of_beq_eq_true Nat.eq_of_beq_eq_true
  refine ⟨_, rfl, fun _ _ K H locs cells slots ls hA hc hs => ?_⟩
  have K := K H locs cells slots ls hA hc hs
  have eS : (Value.ref f :: st).map (q_rv G) = .ref (qgX G f) :: st.map (q_rv G) := by
    rw [List.map_cons]
    show Value.ref (q_ad G f) :: _ = _
    rw [q_ad_ge (by omega)]
  have K : W p l e R s m args below meth c H locs cells slots Q (F0 m (pc + 3) ls ((Value.ref f :: st).map (q_rv G))) := K
  rw [eS] at K
  exact va_gets C.1 C.2.1 (C.2.2.2.2.2.2.2.2.1.2.1 f hf) hA.2.2.2.1 C.2.2.2.2.1 (C.2.2.2.2.2.1 _ (q_wat_mem h1.1)) (fun _ h => h) hd K
theorem q_len0_some {M : qM} {k tag len : Nat} (h : q_len0 M k tag = some len) : M.1[k]? = some (tag, len) := by
  unfold q_len0 at h
  rw [q_nth_eq] at h
  split at h
  · next t n' hk =>
    cases hb : Nat.beq t tag with
    | false => rw [hb] at h; cases h
    | true =>
      rw [hb] at h
      cases h
      rw [hk, Nat.eq_of_beq_eq_true hb]
  · cases h
theorem qi_iaload (C : q_Cx G p R s m args meth c mi d) (hd : decode (q_by mi) pc = .ok (.iaload, n)) (hn : n = 1) (ha : q_do (qgT G) pc L st M .iaload n = some a) : q_Gd G p l e R s m args below meth c mi mc ms nM sM Q a (pc, L, st, M) := by
  subst hn
  unfold q_do at ha
  dsimp only at ha
  split at ha
  · next i k r =>
    unfold q_ald at ha
    cases hb : Nat.blt k 1000 with
    | true =>
      rw [hb] at ha
      dsimp only [cond_true] at ha
      split at ha
      · next len hlen =>
        have hk := q_len0_some hlen
        cases hi : q_in i len with
        | false => rw [hi] at ha; cases ha
        | true =>
          rw [hi] at ha
          cases ha
          refine ⟨_, rfl, fun _ _ K H locs cells slots ls hA hc hs => ?_⟩
          have K := K H locs cells slots ls hA hc hs
          have hlt : k < 1000 := Nat.le_of_ble_eq_true hb
          have he := q_wl_at (G := G) hk
          rw [q_ce_arr (by decide)] at he
          have eS : (Value.int i :: Value.ref k :: r).map (q_rv G) = .int i :: .ref (qgB G + k) :: r.map (q_rv G) := by
            rw [List.map_cons, List.map_cons]
            show _ :: Value.ref (q_ad G k) :: _ = _
            rw [q_ad_lt hlt]
            rfl
          show W p l e R s m args below meth c H locs cells slots Q (F0 m pc ls ((Value.int i :: Value.ref k :: r).map (q_rv G)))
          rw [eS]
          exact va_iald C.1 C.2.1 C.2.2.2.2.2.2.2.2.1.1 hA.1 k 0 he rfl (q_in_vp hi) hd K
      · cases ha
    | false =>
      rw [hb] at ha
      dsimp only [cond_false] at ha
      cases hi : (Nat.beq 100 100 && (Nat.blt k 1003 && (q_in i (qgT G k).1 && Nat.ble (qgT G k).1 1000000))) with
      | false => rw [hi] at ha; cases ha
      | true =>
        rw [hi] at ha
        cases ha
        simp only [Bool.and_eq_true] at hi
        refine ⟨_, rfl, fun _ _ K H locs cells slots ls hA hc hs => ?_⟩
        have K := K H locs cells slots ls hA hc hs
        have hge : 1000 ≤ k := by
          rcases Nat.lt_or_ge k 1000 with z | z
          · rw [show Nat.blt k 1000 = true from Nat.ble_eq_true_of_le z] at hb; cases hb
          · exact z
        have hX := C.2.2.2.2.2.2.2.2.1.2.2.1 k hge (Nat.le_of_ble_eq_true hi.2.1)
        have eS : (Value.int i :: Value.ref k :: r).map (q_rv G) = .int i :: .ref (qgX G k) :: r.map (q_rv G) := by
          rw [List.map_cons, List.map_cons]
          show _ :: Value.ref (q_ad G k) :: _ = _
          rw [q_ad_ge hge]
          rfl
        show W p l e R s m args below meth c H locs cells slots Q (F0 m pc ls ((Value.int i :: Value.ref k :: r).map (q_rv G)))
        rw [eS]
        obtain ⟨scr, x1, x2, x3, x4, x5, x6, x7⟩ := hX
        have hvp := q_in_vp hi.2.2.1
        have hlt : i.toNatClampNeg < (qgT G k).1 := Nat.not_le.mp fun q => hvp (Or.inr q)
        exact W.iald (v := .int ((qgT G k).2 i.toNatClampNeg)) C.1 C.2.1 (by rw [hA.2.2.2.1.2.1 _ (Array.getElem?_eq_some_iff.mp x1).1 x7]; exact x1) x2 x3 (fun z => z.elim (fun z => hvp (Or.inl z)) (fun z => by omega)) (x6 _ hlt) rfl rfl hd K
  · cases ha
theorem qi_caload (C : q_Cx G p R s m args meth c mi d) (hd : decode (q_by mi) pc = .ok (.caload, n)) (hn : n = 1) (ha : q_do (qgT G) pc L st M .caload n = some a) : q_Gd G p l e R s m args below meth c mi mc ms nM sM Q a (pc, L, st, M) := by
  subst hn
  unfold q_do at ha
  dsimp only at ha
  split at ha
  · next i k r =>
    unfold q_ald at ha
    cases hb : Nat.blt k 1000 with
    | true =>
      rw [hb] at ha
      dsimp only [cond_true] at ha
      split at ha
      · next len hlen =>
        have hk := q_len0_some hlen
        cases hi : q_in i len with
        | false => rw [hi] at ha; cases ha
        | true =>
          rw [hi] at ha
          cases ha
          refine ⟨_, rfl, fun _ _ K H locs cells slots ls hA hc hs => ?_⟩
          have K := K H locs cells slots ls hA hc hs
          have hlt : k < 1000 := Nat.le_of_ble_eq_true hb
          have he := q_wl_at (G := G) hk
          rw [q_ce_arr (by decide)] at he
          have eS : (Value.int i :: Value.ref k :: r).map (q_rv G) = .int i :: .ref (qgB G + k) :: r.map (q_rv G) := by
            rw [List.map_cons, List.map_cons]
            show _ :: Value.ref (q_ad G k) :: _ = _
            rw [q_ad_lt hlt]
            rfl
          show W p l e R s m args below meth c H locs cells slots Q (F0 m pc ls ((Value.int i :: Value.ref k :: r).map (q_rv G)))
          rw [eS]
          exact va_cald C.1 C.2.1 C.2.2.2.2.2.2.2.2.1.1 hA.1 k 1 he rfl (q_in_vp hi) hd K
      · cases ha
    | false =>
      rw [hb] at ha
      dsimp only [cond_false] at ha
      cases hi : (Nat.beq 101 100 && (Nat.blt k 1003 && (q_in i (qgT G k).1 && Nat.ble (qgT G k).1 1000000))) with
      | false => rw [hi] at ha; cases ha
      | true =>
        exact absurd hi (by simp)
  · cases ha
theorem qi_baload (C : q_Cx G p R s m args meth c mi d) (hd : decode (q_by mi) pc = .ok (.baload, n)) (hn : n = 1) (ha : q_do (qgT G) pc L st M .baload n = some a) : q_Gd G p l e R s m args below meth c mi mc ms nM sM Q a (pc, L, st, M) := by
  subst hn
  unfold q_do at ha
  dsimp only at ha
  split at ha
  · next i k r =>
    unfold q_ald at ha
    cases hb : Nat.blt k 1000 with
    | true =>
      rw [hb] at ha
      dsimp only [cond_true] at ha
      split at ha
      · next len hlen =>
        have hk := q_len0_some hlen
        cases hi : q_in i len with
        | false => rw [hi] at ha; cases ha
        | true =>
          rw [hi] at ha
          cases ha
          refine ⟨_, rfl, fun _ _ K H locs cells slots ls hA hc hs => ?_⟩
          have K := K H locs cells slots ls hA hc hs
          have hlt : k < 1000 := Nat.le_of_ble_eq_true hb
          have he := q_wl_at (G := G) hk
          rw [q_ce_arr (by decide)] at he
          have eS : (Value.int i :: Value.ref k :: r).map (q_rv G) = .int i :: .ref (qgB G + k) :: r.map (q_rv G) := by
            rw [List.map_cons, List.map_cons]
            show _ :: Value.ref (q_ad G k) :: _ = _
            rw [q_ad_lt hlt]
            rfl
          show W p l e R s m args below meth c H locs cells slots Q (F0 m pc ls ((Value.int i :: Value.ref k :: r).map (q_rv G)))
          rw [eS]
          exact va_zald C.1 C.2.1 C.2.2.2.2.2.2.2.2.1.1 hA.1 k 2 he rfl (q_in_vp hi) hd K
      · cases ha
    | false =>
      rw [hb] at ha
      dsimp only [cond_false] at ha
      cases hi : (Nat.beq 102 100 && (Nat.blt k 1003 && (q_in i (qgT G k).1 && Nat.ble (qgT G k).1 1000000))) with
      | false => rw [hi] at ha; cases ha
      | true =>
        exact absurd hi (by simp)
  · cases ha
/-- an element is written -/
theorem q_aw_core {k tag len idx : Nat} {x : Int32} {H H' : Heap} {locs : List Loc} {ls : Array Slot} (hA : q_At G s mi L M H locs ls) (hk : M.1[k]? = some (tag, len)) (ht : 100 ≤ tag) (e1 : H'[qgB G + k]? = some ((vp_cell (qgA G tag) (len, .inl (q_row M k))).setSlot idx (.int x))) (e2 : H'.size = H.size) (e3 : ∀ q, q ≠ qgB G + k → H'[q]? = H[q]?) : q_At G s mi L (q_put M k (upd (q_row M k) idx x)) H' (locs ++ [⟨qgB G + k, idx⟩]) ls := by
  refine ⟨q_P_set hA.1 hk (q_put_sh _ _ _) e3 (fun k' sh' h => q_ce_put h) ?_, by rw [e2, hA.2.1, q_put_sh], by rw [q_put_sh]; exact hA.2.2.1, hA.2.2.2.1.put e2 e3 (Nat.le_add_right _ _), hA.2.2.2.2⟩
  rw [q_ce_arr ht]
  show H'[qgB G + k]? = some (vp_cell _ _)
  rw [e1, vp_cell_i, vp_cell_i, arrV_store, q_row_put, if_pos rfl]
  congr 2
  funext q
  by_cases hq : q = idx
  · subst hq; simp [updV, upd]
  · simp [updV, upd, hq]
theorem qi_iastore (C : q_Cx G p R s m args meth c mi d) (hd : decode (q_by mi) pc = .ok (.iastore, n)) (hn : n = 1) (ha : q_do (qgT G) pc L st M .iastore n = some a) : q_Gd G p l e R s m args below meth c mi mc ms nM sM Q a (pc, L, st, M) := by
  subst hn
  unfold q_do at ha
  dsimp only at ha
  split at ha
  · next x i k r =>
    unfold q_ast at ha
    split at ha
    · next len hlen =>
      have hk := q_len0_some hlen
      cases hi : q_in i len with
      | false => rw [hi] at ha; cases ha
      | true =>
        rw [hi] at ha
        cases ha
        refine ⟨_, rfl, fun _ _ K H locs cells slots ls hA hc hs => ?_⟩
        have hlt : k < 1000 := Nat.lt_of_lt_of_le (List.getElem?_eq_some_iff.mp hk).1 hA.2.2.1
        have he := q_wl_at (G := G) hk
        rw [q_ce_arr (by decide)] at he
        have hcell := hA.1 k _ he
        have eS : (Value.int x :: Value.int i :: Value.ref k :: r).map (q_rv G) = .int x :: .int i :: .ref (qgB G + k) :: r.map (q_rv G) := by
          rw [List.map_cons, List.map_cons, List.map_cons]
          show _ :: _ :: Value.ref (q_ad G k) :: _ = _
          rw [q_ad_lt hlt]
          rfl
        show W p l e R s m args below meth c H locs cells slots Q (F0 m pc ls ((Value.int x :: Value.int i :: Value.ref k :: r).map (q_rv G)))
        rw [eS]
        refine W.iast C.1 C.2.1 hcell ((C.2.2.2.2.2.2.2.2.1.1.2 0 _ rfl).1 len (fun j => .int (q_row M k j))) (fun q => by cases q) (by show ¬ (i < 0 ∨ (arrV _ _ _).slots.size ≤ _); rw [arrV_size]; exact q_in_vp hi) rfl rfl hd fun H1 e1 e2 e3 => ?_
        
        exact K H1 _ cells slots ls (q_aw_core hA hk (by decide) e1 e2 e3) (by show _ ≤ mc + (q_put M k _).1.length; rw [q_put_sh]; exact hc) (by show _ ≤ ms + q_sl (q_put M k _); rw [q_sl_eq (q_put_sh _ _ _)]; exact hs)
    · cases ha
  · cases ha
theorem qi_castore (C : q_Cx G p R s m args meth c mi d) (hd : decode (q_by mi) pc = .ok (.castore, n)) (hn : n = 1) (ha : q_do (qgT G) pc L st M .castore n = some a) : q_Gd G p l e R s m args below meth c mi mc ms nM sM Q a (pc, L, st, M) := by
  subst hn
  unfold q_do at ha
  dsimp only at ha
  split at ha
  · next x i k r =>
    cases hch : q_chr x with
    | false => rw [hch] at ha; cases ha
    | true =>
    rw [hch] at ha
    dsimp only [cond_true] at ha
    unfold q_ast at ha
    split at ha
    · next len hlen =>
      have hk := q_len0_some hlen
      cases hi : q_in i len with
      | false => rw [hi] at ha; cases ha
      | true =>
        rw [hi] at ha
        cases ha
        refine ⟨_, rfl, fun _ _ K H locs cells slots ls hA hc hs => ?_⟩
        have hlt : k < 1000 := Nat.lt_of_lt_of_le (List.getElem?_eq_some_iff.mp hk).1 hA.2.2.1
        have he := q_wl_at (G := G) hk
        rw [q_ce_arr (by decide)] at he
        have hcell := hA.1 k _ he
        have eS : (Value.int x :: Value.int i :: Value.ref k :: r).map (q_rv G) = .int x :: .int i :: .ref (qgB G + k) :: r.map (q_rv G) := by
          rw [List.map_cons, List.map_cons, List.map_cons]
          show _ :: _ :: Value.ref (q_ad G k) :: _ = _
          rw [q_ad_lt hlt]
          rfl
        show W p l e R s m args below meth c H locs cells slots Q (F0 m pc ls ((Value.int x :: Value.int i :: Value.ref k :: r).map (q_rv G)))
        rw [eS]
        refine W.cast C.1 C.2.1 hcell ((C.2.2.2.2.2.2.2.2.1.1.2 1 _ rfl).1 len (fun j => .int (q_row M k j))) (fun q => by cases q) (by show ¬ (i < 0 ∨ (arrV _ _ _).slots.size ≤ _); rw [arrV_size]; exact q_in_vp hi) rfl rfl hd fun H1 e1 e2 e3 => ?_
        rw [show narrow .char (.int x) = .int x from by have := (q_chr_eq hch).2.1; unfold vp_nar at this; cases hz : narrow .char (.int x) <;> simp [narrow] at hz <;> simp_all [narrow]] at e1
        exact K H1 _ cells slots ls (q_aw_core hA hk (by decide) e1 e2 e3) (by show _ ≤ mc + (q_put M k _).1.length; rw [q_put_sh]; exact hc) (by show _ ≤ ms + q_sl (q_put M k _); rw [q_sl_eq (q_put_sh _ _ _)]; exact hs)
    · cases ha
  · cases ha
theorem qi_bastore (C : q_Cx G p R s m args meth c mi d) (hd : decode (q_by mi) pc = .ok (.bastore, n)) (hn : n = 1) (ha : q_do (qgT G) pc L st M .bastore n = some a) : q_Gd G p l e R s m args below meth c mi mc ms nM sM Q a (pc, L, st, M) := by
  subst hn
  unfold q_do at ha
  dsimp only at ha
  split at ha
  · next x i k r =>
    cases hch : q_bl x with
    | false => rw [hch] at ha; cases ha
    | true =>
    rw [hch] at ha
    dsimp only [cond_true] at ha
    unfold q_ast at ha
    split at ha
    · next len hlen =>
      have hk := q_len0_some hlen
      cases hi : q_in i len with
      | false => rw [hi] at ha; cases ha
      | true =>
        rw [hi] at ha
        cases ha
        refine ⟨_, rfl, fun _ _ K H locs cells slots ls hA hc hs => ?_⟩
        have hlt : k < 1000 := Nat.lt_of_lt_of_le (List.getElem?_eq_some_iff.mp hk).1 hA.2.2.1
        have he := q_wl_at (G := G) hk
        rw [q_ce_arr (by decide)] at he
        have hcell := hA.1 k _ he
        have eS : (Value.int x :: Value.int i :: Value.ref k :: r).map (q_rv G) = .int x :: .int i :: .ref (qgB G + k) :: r.map (q_rv G) := by
          rw [List.map_cons, List.map_cons, List.map_cons]
          show _ :: _ :: Value.ref (q_ad G k) :: _ = _
          rw [q_ad_lt hlt]
          rfl
        show W p l e R s m args below meth c H locs cells slots Q (F0 m pc ls ((Value.int x :: Value.int i :: Value.ref k :: r).map (q_rv G)))
        rw [eS]
        refine W.zast C.1 C.2.1 hcell ((C.2.2.2.2.2.2.2.2.1.1.2 2 _ rfl).1 len (fun j => .int (q_row M k j))) (fun q => by cases q) (by show ¬ (i < 0 ∨ (arrV _ _ _).slots.size ≤ _); rw [arrV_size]; exact q_in_vp hi) rfl rfl hd fun H1 e1 e2 e3 => ?_
        rw [(q_bl_eq hch).1] at e1
        exact K H1 _ cells slots ls (q_aw_core hA hk (by decide) e1 e2 e3) (by show _ ≤ mc + (q_put M k _).1.length; rw [q_put_sh]; exact hc) (by show _ ≤ ms + q_sl (q_put M k _); rw [q_sl_eq (q_put_sh _ _ _)]; exact hs)
    · cases ha
  · cases ha
theorem qi_arraylength (C : q_Cx G p R s m args meth c mi d) (hd : decode (q_by mi) pc = .ok (.arraylength, n)) (hn : n = 1) (ha : q_do (qgT G) pc L st M .arraylength n = some a) : q_Gd G p l e R s m args below meth c mi mc ms nM sM Q a (pc, L, st, M) := by
  subst hn
  unfold q_do at ha
  dsimp only at ha
  split at ha
  · next k r =>
    cases hb : Nat.blt k 1000 with
    | true =>
      rw [hb] at ha
      dsimp only [cond_true] at ha
      split at ha
      · next t len hk =>
        rw [q_nth_eq] at hk
        cases ht : (Nat.ble 100 t && Nat.ble t 102) with
        | false => rw [ht] at ha; cases ha
        | true =>
          rw [ht] at ha
          cases ha
          simp only [Bool.and_eq_true] at ht
          have t1 : 100 ≤ t := Nat.le_of_ble_eq_true ht.1
          have t2 : t ≤ 102 := Nat.le_of_ble_eq_true ht.2
          refine ⟨_, rfl, fun _ _ K H locs cells slots ls hA hc hs => ?_⟩
          have K := K H locs cells slots ls hA hc hs
          have hlt : k < 1000 := Nat.le_of_ble_eq_true hb
          have he := q_wl_at (G := G) hk
          rw [q_ce_arr t1] at he
          have eS : (Value.ref k :: r).map (q_rv G) = .ref (qgB G + k) :: r.map (q_rv G) := by
            rw [List.map_cons]
            show Value.ref (q_ad G k) :: _ = _
            rw [q_ad_lt hlt]
          show W p l e R s m args below meth c H locs cells slots Q (F0 m pc ls ((Value.ref k :: r).map (q_rv G)))
          rw [eS]
          obtain rfl | rfl | rfl : t = 100 ∨ t = 101 ∨ t = 102 := by omega
          · exact va_alen C.1 C.2.1 C.2.2.2.2.2.2.2.2.1.1 hA.1 k 0 he rfl rfl hd K
          · exact va_alen C.1 C.2.1 C.2.2.2.2.2.2.2.2.1.1 hA.1 k 1 he rfl rfl hd K
          · exact va_alen C.1 C.2.1 C.2.2.2.2.2.2.2.2.1.1 hA.1 k 2 he rfl rfl hd K
      · cases ha
    | false =>
      rw [hb] at ha
      dsimp only [cond_false] at ha
      cases hi : (Nat.blt k 1003 && Nat.ble (qgT G k).1 1000000) with
      | false => rw [hi] at ha; cases ha
      | true =>
        rw [hi] at ha
        cases ha
        simp only [Bool.and_eq_true] at hi
        refine ⟨_, rfl, fun _ _ K H locs cells slots ls hA hc hs => ?_⟩
        have K := K H locs cells slots ls hA hc hs
        have hge : 1000 ≤ k := by
          rcases Nat.lt_or_ge k 1000 with z | z
          · rw [show Nat.blt k 1000 = true from Nat.ble_eq_true_of_le z] at hb; cases hb
          · exact z
        have hX := C.2.2.2.2.2.2.2.2.1.2.2.1 k hge (Nat.le_of_ble_eq_true hi.1)
        have eS : (Value.ref k :: r).map (q_rv G) = .ref (qgX G k) :: r.map (q_rv G) := by
          rw [List.map_cons]
          show Value.ref (q_ad G k) :: _ = _
          rw [q_ad_ge hge]
        show W p l e R s m args below meth c H locs cells slots Q (F0 m pc ls ((Value.ref k :: r).map (q_rv G)))
        rw [eS]
        obtain ⟨scr, x1, x2, x3, x4, x5, x6, x7⟩ := hX
        exact W.alen (n := Int32.ofNat (qgT G k).1) C.1 C.2.1 (by rw [hA.2.2.2.1.2.1 _ (Array.getElem?_eq_some_iff.mp x1).1 x7]; exact x1) x2 x5 rfl rfl hd K
  · cases ha
theorem q_new_sh (M : qM) (sh : Nat × Nat) : (q_new M sh).1 = M.1 ++ [sh] := by unfold q_new; rw [q_put_sh]
theorem q_new_ce {G : qG} {M : qM} {sh sh' : Nat × Nat} {k : Nat} (h : k ≠ M.1.length) : q_ce G (q_new M sh) k sh' = q_ce G M k sh' := by
  unfold q_new
  rw [q_ce_put h]
  unfold q_ce q_fv q_row
  simp [va_up, h, q_pm_eq, q_rg_filter]
theorem q_new_row (M : qM) (sh : Nat × Nat) : q_row (q_new M sh) M.1.length = fun _ => 0 := by
  unfold q_new
  rw [q_row_put, if_pos rfl]
theorem q_new_fv {M : qM} {sh : Nat × Nat} {ci j : Nat} (h9 : ci < 9) (hj : j < q_N ci) (G : qG) : defaultValue (q_ft ci j) = q_rv G (q_fv (q_new M sh) M.1.length ci j) := by
  have h := q_fk_all ci h9 j hj
  unfold q_fv
  rw [q_new_row]
  have e1 : (q_new M sh).2.2.2.1 (q_pm M.1.length) = 0 := by unfold q_new q_put; cases Nat.blt M.1.length 58 <;> simp [va_up]
  have e2 : q_rg (q_new M sh).2.2.2.2 M.1.length j = none := by unfold q_new q_put; cases Nat.blt M.1.length 58 <;> simp [q_rg_filter]
  rw [e1, e2]
  rcases h with h | h | h | h
  · rw [h.1, h.2]; rfl
  · rw [h.1, h.2]; rfl
  · rw [h.1, h.2]; rfl
  · rw [h.1, h.2.2.1]; rfl
theorem q_sl_new (M : qM) (sh : Nat × Nat) : q_sl (q_new M sh) = q_sl M + sh.2 := by
  unfold q_sl
  rw [q_new_sh]
  simp
theorem qi_new {i f x : Nat} (hv : q_fnd q_kl (q_rc mi) i = some (f, x)) (hmc : mc ≤ R.cells) (hms : ms ≤ R.slots) (C : q_Cx G p R s m args meth c mi d) (hd : decode (q_by mi) pc = .ok (.new i, n)) (hn : n = 3) (ha : q_do (qgT G) pc L st M (.new f) n = some a) : q_Gd G p l e R s m args below meth c mi mc ms nM sM Q a (pc, L, st, M) := by
  subst hn
  unfold q_do at ha
  dsimp only at ha
  cases hb : (Nat.blt M.1.length 999 && Nat.blt f 9) with
  | false => rw [hb] at ha; cases ha
  | true =>
    rw [hb] at ha
    cases ha
    simp only [Bool.and_eq_true] at hb
    have hl9 : M.1.length < 999 := Nat.le_of_ble_eq_true hb.1
    have h9 : f < 9 := Nat.le_of_ble_eq_true hb.2
    have h1 := List.all_eq_true.mp q_kl_all _ (q_fnd_mem hv)
    simp only [Bool.and_eq_true] at h1
    have h2 := List.all_eq_true.mp q_in_all f (List.mem_range.mpr h9)
    simp only [Bool.and_eq_true] at h2
    have hts := C.2.2.2.2.2.1
    refine ⟨_, rfl, fun hg1 hg2 K H locs cells slots ls hA hc hs => ?_⟩
    dsimp only at hg1 hg2 hc hs
    rw [q_new_sh, List.length_append] at hg1
    rw [q_sl_new] at hg2
    have hg1 : M.1.length + 1 ≤ nM := hg1
    have hg2 : q_sl M + q_N f ≤ sM := hg2
    have hKn := C.2.2.2.2.2.2.2.2.1.1.1 f _ (q_cls_at h9)
    refine W.newcK C.1 C.2.1 C.2.2.2.2.1 (hts _ (q_wat_mem h1.1)) (hts _ (q_wat_mem h2.1)) (hts _ (q_wat_mem h2.2)) rfl hd (by omega) (by omega) hKn.2.1 hA.2.1 fun H1 kC hkC e1 z1 o1 => ?_
    have K := K H1 locs (cells + 1) (slots + q_N f) ls ⟨q_P_push (sh := (f, q_N f)) hA.1 (q_new_sh _ _) o1 (fun k' sh' h => q_new_ce h) ?_, by rw [q_new_sh, List.length_append, z1]; rfl, by rw [q_new_sh, List.length_append]; show M.1.length + 1 ≤ 1000; omega, ⟨Nat.le_trans hA.2.2.2.1.1 (by rw [hA.2.1, z1]; omega), fun q h3 h4 => (o1 q (by rw [← hA.2.1]; exact Nat.lt_of_lt_of_le h3 hA.2.2.2.1.1)).trans (hA.2.2.2.1.2.1 q h3 h4), hA.2.2.2.1.2.2⟩, hA.2.2.2.2⟩ (by show _ ≤ mc + (q_new M _).1.length; rw [q_new_sh, List.length_append]; show _ ≤ mc + (M.1.length + 1); omega) (by show _ ≤ ms + q_sl (q_new M _); rw [q_sl_new]; show _ ≤ ms + (q_sl M + q_N f); omega)
    · have eS : (Value.ref M.1.length :: st).map (q_rv G) = .ref (qgB G + M.1.length) :: st.map (q_rv G) := by
        rw [List.map_cons]
        show Value.ref (q_ad G M.1.length) :: _ = _
        rw [q_ad_lt (by omega)]
      have K : W p l e R s m args below meth c H1 locs (cells + 1) (slots + q_N f) Q (F0 m (pc + 3) ls ((Value.ref M.1.length :: st).map (q_rv G))) := K
      rw [eS] at K
      exact K
    · rw [q_ce_obj h9]
      exact ⟨_, q_cls_at h9, (u_born (q_ft f) hts (q_lay_in h9) hKn hkC e1 (q_ft_all f h9)).to (fun j hj => by rw [q_fs_V hj]; exact q_new_fv h9 hj G)⟩
theorem q_tag_spec {t : ArrayType} {tag : Nat} (h : q_tag t = some tag) : 100 ≤ tag ∧ tag ≤ 102 ∧ (∃ p, q_wat p (.arrayClass (newarray.typeOf t)) = true) ∧ defaultValue (newarray.typeOf t) = .int 0 ∧ componentBytes (newarray.typeOf t) ≤ 4 ∧ ∃ j : Nat, ∀ G : qG, (q_tys G)[j]? = some (qgA G tag, newarray.typeOf t) := by
  cases t <;> simp [q_tag] at h <;> subst h
  · exact ⟨by decide, by decide, ⟨_, q_ar_all.2.2⟩, rfl, by decide, 2, fun _ => rfl⟩
  · exact ⟨by decide, by decide, ⟨_, q_ar_all.2.1⟩, rfl, by decide, 1, fun _ => rfl⟩
  · exact ⟨by decide, by decide, ⟨_, q_ar_all.1⟩, rfl, by decide, 0, fun _ => rfl⟩
theorem qi_newarray {t : ArrayType} (hmc : mc ≤ R.cells) (hms : ms ≤ R.slots) (C : q_Cx G p R s m args meth c mi d) (hd : decode (q_by mi) pc = .ok (.newarray t, n)) (hn : n = 2) (ha : q_do (qgT G) pc L st M (.newarray t) n = some a) : q_Gd G p l e R s m args below meth c mi mc ms nM sM Q a (pc, L, st, M) := by
  subst hn
  unfold q_do at ha
  dsimp only at ha
  split at ha
  · next x r =>
    split at ha
    · next tag htag =>
      cases hb : (Nat.blt M.1.length 999 && (decide (0 ≤ x) && Nat.ble x.toNatClampNeg 100000)) with
      | false => rw [hb] at ha; cases ha
      | true =>
        rw [hb] at ha
        cases ha
        simp only [Bool.and_eq_true, decide_eq_true_eq] at hb
        have hl9 : M.1.length < 999 := Nat.le_of_ble_eq_true hb.1
        have hx5 : x.toNatClampNeg ≤ 100000 := Nat.le_of_ble_eq_true hb.2.2
        obtain ⟨ht1, ht2, ⟨pw, hpw⟩, hdf, hcb, j, hty⟩ := q_tag_spec htag
        have hts := C.2.2.2.2.2.1
        refine ⟨_, rfl, fun hg1 hg2 K H locs cells slots ls hA hc hs => ?_⟩
        dsimp only at hg1 hg2 hc hs
        rw [q_new_sh, List.length_append] at hg1
        rw [q_sl_new] at hg2
        have hg1 : M.1.length + 1 ≤ nM := hg1
        have hg2 : q_sl M + x.toNatClampNeg ≤ sM := hg2
        have hbytes : x.toNatClampNeg * componentBytes (newarray.typeOf t) ≤ 536870912 := Nat.le_trans (Nat.mul_le_mul hx5 hcb) (by decide)
        refine va_newaK C.1 C.2.1 (hts _ (q_wat_mem hpw)) rfl hd rfl (by rw [Int32.not_lt]; exact hb.2.1) rfl hbytes (by omega) (by omega) hA.2.1 fun H1 cN e1 z1 o1 hAr hNm => ?_
        have hcN : cN = qgA G tag := by
          have h5 := (C.2.2.2.2.2.2.2.2.1.1.2 j _ (hty G)).2
          have h6 : s.vm.findClass ("[" ++ (newarray.typeOf t).toString) = some (qgA G tag) := by
            cases t <;> simp [q_tag] at htag <;> exact h5
          exact Option.some.inj (hNm.symm.trans h6)
        have K := K H1 locs (cells + 1) (slots + x.toNatClampNeg) ls ⟨q_P_push (sh := (tag, x.toNatClampNeg)) hA.1 (q_new_sh _ _) o1 (fun k' sh' h => q_new_ce h) ?_, by rw [q_new_sh, List.length_append, z1]; rfl, by rw [q_new_sh, List.length_append]; show M.1.length + 1 ≤ 1000; omega, ⟨Nat.le_trans hA.2.2.2.1.1 (by rw [hA.2.1, z1]; omega), fun q h3 h4 => (o1 q (by rw [← hA.2.1]; exact Nat.lt_of_lt_of_le h3 hA.2.2.2.1.1)).trans (hA.2.2.2.1.2.1 q h3 h4), hA.2.2.2.1.2.2⟩, hA.2.2.2.2⟩ (by show _ ≤ mc + (q_new M _).1.length; rw [q_new_sh, List.length_append]; show _ ≤ mc + (M.1.length + 1); omega) (by show _ ≤ ms + q_sl (q_new M _); rw [q_sl_new]; show _ ≤ ms + (q_sl M + x.toNatClampNeg); omega)
        · have eS : (Value.ref M.1.length :: r).map (q_rv G) = .ref (qgB G + M.1.length) :: r.map (q_rv G) := by
            rw [List.map_cons]
            show Value.ref (q_ad G M.1.length) :: _ = _
            rw [q_ad_lt (by omega)]
          have K : W p l e R s m args below meth c H1 locs (cells + 1) (slots + x.toNatClampNeg) Q (F0 m (pc + 2) ls ((Value.ref M.1.length :: r).map (q_rv G))) := K
          rw [eS] at K
          exact K
        · rw [q_ce_arr ht1]
          show H1[qgB G + M.1.length]? = some (vp_cell _ _)
          rw [e1, vp_cell_i, q_new_row, hcN, hdf]
    · cases ha
  · cases ha
end QJ
