/-! each instruction of the small machine is the machine's own -/
def q_Cx (G : qG) (p : Program) (R : Room) (s : State) (m : MethodId) (args : Array Value) (meth : Method) (c : Code) (mi d : Nat) : Prop := p.tables.exec = Jvm.exec ∧ c.code = q_by mi ∧ meth.sig.returnType = q_rt mi ∧ c.maxLocals = q_ml mi ∧ s.vm.findClass (q_own mi) = some m.cls ∧ (∀ w ∈ q_tbl, w.before args s = true) ∧ meth.locks = false ∧ ((q_y mi).name = "<init>" → meth.name = "<init>") ∧ q_KK G s ∧ d + 2 ≤ R.frames ∧ 64 * (d + 2) ≤ R.locals
def q_At (G : qG) (s : State) (mi : Nat) (L : List (Option Value)) (M : qM) (H : Heap) (locs : List Loc) (ls : Array Slot) : Prop := va_P (qgD G) q_cls (q_wl G M) H ∧ H.size = qgB G + M.1.length ∧ M.1.length ≤ 1000 ∧ va_S (qgF G) s.heap H locs ∧ q_lv G ls (q_ml mi) (q_lg mi) L
def q_TT (G : qG) (p : Program) (l : Launch) (e : Env) (R : Room) (s : State) (m : MethodId) (args : Array Value) (below : List Frame) (meth : Method) (c : Code) (mi mc ms nM sM : Nat) (Q : State → Prop) (S : qS) : Prop :=
  ∀ (H : Heap) (locs : List Loc) (cells slots : Nat) (ls : Array Slot), q_At G s mi S.2.1 S.2.2.2 H locs ls → cells + nM ≤ mc + S.2.2.2.1.length → slots + sM ≤ ms + q_sl S.2.2.2 → W p l e R s m args below meth c H locs cells slots Q (F0 m S.1 ls (S.2.2.1.map (q_rv G)))
def q_Gd (G : qG) (p : Program) (l : Launch) (e : Env) (R : Room) (s : State) (m : MethodId) (args : Array Value) (below : List Frame) (meth : Method) (c : Code) (mi mc ms nM sM : Nat) (Q : State → Prop) (a : qR) (S : qS) : Prop :=
  ∃ S' : qS, a = .inl S' ∧ (S'.2.2.2.1.length ≤ nM → q_sl S'.2.2.2 ≤ sM → q_TT G p l e R s m args below meth c mi mc ms nM sM Q S' → q_TT G p l e R s m args below meth c mi mc ms nM sM Q S)
section QI
variable {G : qG} {p : Program} {l : Launch} {e : Env} {R : Room} {s : State} {m : MethodId} {args : Array Value} {below : List Frame} {meth : Method} {c : Code} {mi d mc ms nM sM : Nat} {Q : State → Prop} {pc n : Nat} {L : List (Option Value)} {st : List Value} {M : qM} {a : qR}
theorem qi_aload_n {j : Fin 4} (C : q_Cx G p R s m args meth c mi d) (hd : decode (q_by mi) pc = .ok (.aload_n j, n)) (hn : n = 1) (ha : q_do (qgT G) pc L st M (.aload j) n = some a) : q_Gd G p l e R s m args below meth c mi mc ms nM sM Q a (pc, L, st, M) := by
  subst hn
  unfold q_do at ha
  dsimp only at ha
  split at ha
  · next w hw =>
    cases ha
    exact ⟨_, rfl, fun _ _ K H locs cells slots ls hA hc hs => lv_aload_n C.1 C.2.1 hd rfl (hA.2.2.2.2.2.2.2.1 _ _ (q_ld_some hw)) (K H locs cells slots ls hA hc hs)⟩
  · cases ha
theorem qi_aload {j : Nat} (C : q_Cx G p R s m args meth c mi d) (hd : decode (q_by mi) pc = .ok (.aload j, n)) (hn : n = 2) (ha : q_do (qgT G) pc L st M (.aload j) n = some a) : q_Gd G p l e R s m args below meth c mi mc ms nM sM Q a (pc, L, st, M) := by
  subst hn
  unfold q_do at ha
  dsimp only at ha
  split at ha
  · next w hw =>
    cases ha
    exact ⟨_, rfl, fun _ _ K H locs cells slots ls hA hc hs => lv_aload C.1 C.2.1 hd (hA.2.2.2.2.2.2.2.1 _ _ (q_ld_some hw)) (K H locs cells slots ls hA hc hs)⟩
  · cases ha
theorem qi_iload_n {j : Fin 4} (C : q_Cx G p R s m args meth c mi d) (hd : decode (q_by mi) pc = .ok (.iload_n j, n)) (hn : n = 1) (ha : q_do (qgT G) pc L st M (.iload j) n = some a) : q_Gd G p l e R s m args below meth c mi mc ms nM sM Q a (pc, L, st, M) := by
  subst hn
  unfold q_do at ha
  dsimp only at ha
  split at ha
  · next w hw =>
    cases ha
    exact ⟨_, rfl, fun _ _ K H locs cells slots ls hA hc hs => lv_iload_n C.1 C.2.1 hd rfl (hA.2.2.2.2.2.2.2.1 _ _ (q_ld_some hw)) (K H locs cells slots ls hA hc hs)⟩
  · cases ha
theorem qi_iload {j : Nat} (C : q_Cx G p R s m args meth c mi d) (hd : decode (q_by mi) pc = .ok (.iload j, n)) (hn : n = 2) (ha : q_do (qgT G) pc L st M (.iload j) n = some a) : q_Gd G p l e R s m args below meth c mi mc ms nM sM Q a (pc, L, st, M) := by
  subst hn
  unfold q_do at ha
  dsimp only at ha
  split at ha
  · next w hw =>
    cases ha
    exact ⟨_, rfl, fun _ _ K H locs cells slots ls hA hc hs => lv_iload C.1 C.2.1 hd (hA.2.2.2.2.2.2.2.1 _ _ (q_ld_some hw)) (K H locs cells slots ls hA hc hs)⟩
  · cases ha
theorem qi_lload_n {j : Fin 4} (C : q_Cx G p R s m args meth c mi d) (hd : decode (q_by mi) pc = .ok (.lload_n j, n)) (hn : n = 1) (ha : q_do (qgT G) pc L st M (.lload j) n = some a) : q_Gd G p l e R s m args below meth c mi mc ms nM sM Q a (pc, L, st, M) := by
  subst hn
  unfold q_do at ha
  dsimp only at ha
  split at ha
  · next w hw =>
    cases ha
    exact ⟨_, rfl, fun _ _ K H locs cells slots ls hA hc hs => lv_lload_n C.1 C.2.1 hd rfl (hA.2.2.2.2.2.2.2.1 _ _ (q_ld_some hw)) (K H locs cells slots ls hA hc hs)⟩
  · cases ha
theorem qi_lload {j : Nat} (C : q_Cx G p R s m args meth c mi d) (hd : decode (q_by mi) pc = .ok (.lload j, n)) (hn : n = 2) (ha : q_do (qgT G) pc L st M (.lload j) n = some a) : q_Gd G p l e R s m args below meth c mi mc ms nM sM Q a (pc, L, st, M) := by
  subst hn
  unfold q_do at ha
  dsimp only at ha
  split at ha
  · next w hw =>
    cases ha
    exact ⟨_, rfl, fun _ _ K H locs cells slots ls hA hc hs => lv_lload C.1 C.2.1 hd (hA.2.2.2.2.2.2.2.1 _ _ (q_ld_some hw)) (K H locs cells slots ls hA hc hs)⟩
  · cases ha
theorem qi_astore_n (hlg : q_lg mi = false) {j : Fin 4} (C : q_Cx G p R s m args meth c mi d) (hd : decode (q_by mi) pc = .ok (.astore_n j, n)) (hn : n = 1) (ha : q_do (qgT G) pc L st M (.astore j) n = some a) : q_Gd G p l e R s m args below meth c mi mc ms nM sM Q a (pc, L, st, M) := by
  subst hn
  unfold q_do at ha
  dsimp only at ha
  split at ha
  · next w r =>
    split at ha
    · next L' hL =>
      cases ha
      exact ⟨_, rfl, fun _ _ K H locs cells slots ls hA hc hs => lv_astore_n C.1 C.2.1 hd rfl (q_lv_has hA.2.2.2.2) (by rw [← hA.2.2.2.2.2.2.1]; exact (q_st1_spec hL).2) rfl (fun ls' h' => K H locs cells slots ls' ⟨hA.1, hA.2.1, hA.2.2.1, hA.2.2.2.1, q_lv_st1 hA.2.2.2.2 (q_ok1_lv (hlg ▸ hA.2.2.2.2)) rfl hL h'⟩ hc hs)⟩
    · cases ha
  · cases ha
theorem qi_astore (hlg : q_lg mi = false) {j : Nat} (C : q_Cx G p R s m args meth c mi d) (hd : decode (q_by mi) pc = .ok (.astore j, n)) (hn : n = 2) (ha : q_do (qgT G) pc L st M (.astore j) n = some a) : q_Gd G p l e R s m args below meth c mi mc ms nM sM Q a (pc, L, st, M) := by
  subst hn
  unfold q_do at ha
  dsimp only at ha
  split at ha
  · next w r =>
    split at ha
    · next L' hL =>
      cases ha
      exact ⟨_, rfl, fun _ _ K H locs cells slots ls hA hc hs => lv_astore C.1 C.2.1 hd (q_lv_has hA.2.2.2.2) (by rw [← hA.2.2.2.2.2.2.1]; exact (q_st1_spec hL).2) rfl (fun ls' h' => K H locs cells slots ls' ⟨hA.1, hA.2.1, hA.2.2.1, hA.2.2.2.1, q_lv_st1 hA.2.2.2.2 (q_ok1_lv (hlg ▸ hA.2.2.2.2)) rfl hL h'⟩ hc hs)⟩
    · cases ha
  · cases ha
theorem qi_istore_n (hlg : q_lg mi = false) {j : Fin 4} (C : q_Cx G p R s m args meth c mi d) (hd : decode (q_by mi) pc = .ok (.istore_n j, n)) (hn : n = 1) (ha : q_do (qgT G) pc L st M (.istore j) n = some a) : q_Gd G p l e R s m args below meth c mi mc ms nM sM Q a (pc, L, st, M) := by
  subst hn
  unfold q_do at ha
  dsimp only at ha
  split at ha
  · next w r =>
    split at ha
    · next L' hL =>
      cases ha
      exact ⟨_, rfl, fun _ _ K H locs cells slots ls hA hc hs => lv_istore_n C.1 C.2.1 hd rfl (q_lv_has hA.2.2.2.2) (by rw [← hA.2.2.2.2.2.2.1]; exact (q_st1_spec hL).2) rfl (fun ls' h' => K H locs cells slots ls' ⟨hA.1, hA.2.1, hA.2.2.1, hA.2.2.2.1, q_lv_st1 hA.2.2.2.2 (q_ok1_lv (hlg ▸ hA.2.2.2.2)) rfl hL h'⟩ hc hs)⟩
    · cases ha
  · cases ha
theorem qi_istore (hlg : q_lg mi = false) {j : Nat} (C : q_Cx G p R s m args meth c mi d) (hd : decode (q_by mi) pc = .ok (.istore j, n)) (hn : n = 2) (ha : q_do (qgT G) pc L st M (.istore j) n = some a) : q_Gd G p l e R s m args below meth c mi mc ms nM sM Q a (pc, L, st, M) := by
  subst hn
  unfold q_do at ha
  dsimp only at ha
  split at ha
  · next w r =>
    split at ha
    · next L' hL =>
      cases ha
      exact ⟨_, rfl, fun _ _ K H locs cells slots ls hA hc hs => lv_istore C.1 C.2.1 hd (q_lv_has hA.2.2.2.2) (by rw [← hA.2.2.2.2.2.2.1]; exact (q_st1_spec hL).2) rfl (fun ls' h' => K H locs cells slots ls' ⟨hA.1, hA.2.1, hA.2.2.1, hA.2.2.2.1, q_lv_st1 hA.2.2.2.2 (q_ok1_lv (hlg ▸ hA.2.2.2.2)) rfl hL h'⟩ hc hs)⟩
    · cases ha
  · cases ha
theorem qi_fstore_n (hlg : q_lg mi = true) {j : Fin 4} (C : q_Cx G p R s m args meth c mi d) (hd : decode (q_by mi) pc = .ok (.istore_n j, n)) (hn : n = 1) (ha : q_do (qgT G) pc L st M (.fstore j) n = some a) : q_Gd G p l e R s m args below meth c mi mc ms nM sM Q a (pc, L, st, M) := by
  subst hn
  unfold q_do at ha
  dsimp only at ha
  split at ha
  · next w r =>
    split at ha
    · next L' hL =>
      cases ha
      exact ⟨_, rfl, fun _ _ K H locs cells slots ls hA hc hs => lv_istore_n C.1 C.2.1 hd rfl (q_lv_has hA.2.2.2.2) (by rw [← hA.2.2.2.2.2.2.1]; exact (q_st1_spec (q_st1c_spec hL).1).2) rfl (fun ls' h' => K H locs cells slots ls' ⟨hA.1, hA.2.1, hA.2.2.1, hA.2.2.2.1, q_lv_st1 hA.2.2.2.2 (q_st1c_spec hL).2 rfl (q_st1c_spec hL).1 h'⟩ hc hs)⟩
    · cases ha
  · cases ha
theorem qi_fstore (hlg : q_lg mi = true) {j : Nat} (C : q_Cx G p R s m args meth c mi d) (hd : decode (q_by mi) pc = .ok (.istore j, n)) (hn : n = 2) (ha : q_do (qgT G) pc L st M (.fstore j) n = some a) : q_Gd G p l e R s m args below meth c mi mc ms nM sM Q a (pc, L, st, M) := by
  subst hn
  unfold q_do at ha
  dsimp only at ha
  split at ha
  · next w r =>
    split at ha
    · next L' hL =>
      cases ha
      exact ⟨_, rfl, fun _ _ K H locs cells slots ls hA hc hs => lv_istore C.1 C.2.1 hd (q_lv_has hA.2.2.2.2) (by rw [← hA.2.2.2.2.2.2.1]; exact (q_st1_spec (q_st1c_spec hL).1).2) rfl (fun ls' h' => K H locs cells slots ls' ⟨hA.1, hA.2.1, hA.2.2.1, hA.2.2.2.1, q_lv_st1 hA.2.2.2.2 (q_st1c_spec hL).2 rfl (q_st1c_spec hL).1 h'⟩ hc hs)⟩
    · cases ha
  · cases ha
theorem qi_lstore_n (hlg : q_lg mi = true) {j : Fin 4} (C : q_Cx G p R s m args meth c mi d) (hd : decode (q_by mi) pc = .ok (.lstore_n j, n)) (hn : n = 1) (ha : q_do (qgT G) pc L st M (.lstore j) n = some a) : q_Gd G p l e R s m args below meth c mi mc ms nM sM Q a (pc, L, st, M) := by
  subst hn
  unfold q_do at ha
  dsimp only at ha
  split at ha
  · next w r =>
    split at ha
    · next L' hL =>
      cases ha
      exact ⟨_, rfl, fun _ _ K H locs cells slots ls hA hc hs => lv_lstore_n C.1 C.2.1 hd rfl (q_lv_has hA.2.2.2.2) (by rw [← hA.2.2.2.2.2.2.1]; exact (q_st2_spec hL).2.1) rfl (fun ls' h' => K H locs cells slots ls' ⟨hA.1, hA.2.1, hA.2.2.1, hA.2.2.2.1, q_lv_st2 hlg hA.2.2.2.2.2.2.1 hL h'⟩ hc hs)⟩
    · cases ha
  · cases ha
theorem qi_lstore (hlg : q_lg mi = true) {j : Nat} (C : q_Cx G p R s m args meth c mi d) (hd : decode (q_by mi) pc = .ok (.lstore j, n)) (hn : n = 2) (ha : q_do (qgT G) pc L st M (.lstore j) n = some a) : q_Gd G p l e R s m args below meth c mi mc ms nM sM Q a (pc, L, st, M) := by
  subst hn
  unfold q_do at ha
  dsimp only at ha
  split at ha
  · next w r =>
    split at ha
    · next L' hL =>
      cases ha
      exact ⟨_, rfl, fun _ _ K H locs cells slots ls hA hc hs => lv_lstore C.1 C.2.1 hd (q_lv_has hA.2.2.2.2) (by rw [← hA.2.2.2.2.2.2.1]; exact (q_st2_spec hL).2.1) rfl (fun ls' h' => K H locs cells slots ls' ⟨hA.1, hA.2.1, hA.2.2.1, hA.2.2.2.1, q_lv_st2 hlg hA.2.2.2.2.2.2.1 hL h'⟩ hc hs)⟩
    · cases ha
  · cases ha
theorem qi_iconst {v : Int} (C : q_Cx G p R s m args meth c mi d) (hd : decode (q_by mi) pc = .ok (.iconst v, n)) (hn : n = 1) (ha : q_do (qgT G) pc L st M (.iconst v) n = some a) : q_Gd G p l e R s m args below meth c mi mc ms nM sM Q a (pc, L, st, M) := by
  subst hn
  cases ha
  exact ⟨_, rfl, fun _ _ K H locs cells slots ls hA hc hs => lv_iconst C.1 C.2.1 hd rfl (K H locs cells slots ls hA hc hs)⟩
theorem qi_bipush {v : Int} (hv : (Int8.ofInt v).toInt32 = Int32.ofInt v) (C : q_Cx G p R s m args meth c mi d) (hd : decode (q_by mi) pc = .ok (.bipush v, n)) (hn : n = 2) (ha : q_do (qgT G) pc L st M (.iconst v) n = some a) : q_Gd G p l e R s m args below meth c mi mc ms nM sM Q a (pc, L, st, M) := by
  subst hn
  cases ha
  exact ⟨_, rfl, fun _ _ K H locs cells slots ls hA hc hs => lv_bipush C.1 C.2.1 hd hv (K H locs cells slots ls hA hc hs)⟩
theorem qi_sipush {v : Int} (hv : (Int16.ofInt v).toInt32 = Int32.ofInt v) (C : q_Cx G p R s m args meth c mi d) (hd : decode (q_by mi) pc = .ok (.sipush v, n)) (hn : n = 3) (ha : q_do (qgT G) pc L st M (.iconst v) n = some a) : q_Gd G p l e R s m args below meth c mi mc ms nM sM Q a (pc, L, st, M) := by
  subst hn
  cases ha
  exact ⟨_, rfl, fun _ _ K H locs cells slots ls hA hc hs => lv_sipush C.1 C.2.1 hd hv (K H locs cells slots ls hA hc hs)⟩
theorem qi_ldc {v : Int} {i x : Nat} (hv : q_fnd q_ck (q_rc mi) i = some (v, x)) (C : q_Cx G p R s m args meth c mi d) (hd : decode (q_by mi) pc = .ok (.ldc i, n)) (hn : n = 2) (ha : q_do (qgT G) pc L st M (.iconst v) n = some a) : q_Gd G p l e R s m args below meth c mi mc ms nM sM Q a (pc, L, st, M) := by
  subst hn
  cases ha
  have h1 := List.all_eq_true.mp q_ck_all _ (q_fnd_mem hv)
  exact ⟨_, rfl, fun _ _ K H locs cells slots ls hA hc hs => lv_ldc C.1 C.2.1 C.2.2.2.2.1 (C.2.2.2.2.2.1 _ (q_wat_mem h1)) hd (K H locs cells slots ls hA hc hs)⟩
theorem qi_ldc_w {v : Int} {i x : Nat} (hv : q_fnd q_ck (q_rc mi) i = some (v, x)) (C : q_Cx G p R s m args meth c mi d) (hd : decode (q_by mi) pc = .ok (.ldc_w i, n)) (hn : n = 3) (ha : q_do (qgT G) pc L st M (.iconst v) n = some a) : q_Gd G p l e R s m args below meth c mi mc ms nM sM Q a (pc, L, st, M) := by
  subst hn
  cases ha
  have h1 := List.all_eq_true.mp q_ck_all _ (q_fnd_mem hv)
  exact ⟨_, rfl, fun _ _ K H locs cells slots ls hA hc hs => lv_ldcw C.1 C.2.1 C.2.2.2.2.1 (C.2.2.2.2.2.1 _ (q_wat_mem h1)) hd (K H locs cells slots ls hA hc hs)⟩
theorem qi_lconst {k : Fin 2} (C : q_Cx G p R s m args meth c mi d) (hd : decode (q_by mi) pc = .ok (.lconst k, n)) (hn : n = 1) (ha : q_do (qgT G) pc L st M (.bipush ((k : Nat) : Int)) n = some a) : q_Gd G p l e R s m args below meth c mi mc ms nM sM Q a (pc, L, st, M) := by
  subst hn
  cases ha
  exact ⟨_, rfl, fun _ _ K H locs cells slots ls hA hc hs => lv_lconst C.1 C.2.1 hd (Int64.ofInt_eq_ofNat).symm (K H locs cells slots ls hA hc hs)⟩
theorem qi_ldc2_w {v : Int} {i x : Nat} (hv : q_fnd q_cj (q_rc mi) i = some (v, x)) (C : q_Cx G p R s m args meth c mi d) (hd : decode (q_by mi) pc = .ok (.ldc2_w i, n)) (hn : n = 3) (ha : q_do (qgT G) pc L st M (.bipush v) n = some a) : q_Gd G p l e R s m args below meth c mi mc ms nM sM Q a (pc, L, st, M) := by
  subst hn
  cases ha
  have h1 := List.all_eq_true.mp q_cj_all _ (q_fnd_mem hv)
  exact ⟨_, rfl, fun _ _ K H locs cells slots ls hA hc hs => lv_ldc2 C.1 C.2.1 C.2.2.2.2.1 (C.2.2.2.2.2.1 _ (q_wat_mem h1)) hd (K H locs cells slots ls hA hc hs)⟩
theorem qi_iinc {j : Nat} {v : Int} (C : q_Cx G p R s m args meth c mi d) (hd : decode (q_by mi) pc = .ok (.iinc j v, n)) (hn : n = 3) (ha : q_do (qgT G) pc L st M (.iinc j v) n = some a) : q_Gd G p l e R s m args below meth c mi mc ms nM sM Q a (pc, L, st, M) := by
  subst hn
  unfold q_do at ha
  dsimp only at ha
  split at ha
  · next w hw =>
    split at ha
    · next L' hL =>
      cases ha
      refine ⟨_, rfl, fun _ _ K H locs cells slots ls hA hc hs => ?_⟩
      obtain ⟨k, hk⟩ := List.getElem?_of_mem (q_prs_mem (G := G).mpr ⟨_, q_ld_some hw, rfl⟩)
      exact lv_iinc C.1 C.2.1 hd (q_lv_has hA.2.2.2.2) hk rfl (by rw [← hA.2.2.2.2.2.2.1]; exact (q_st1_spec hL).2) rfl (fun ls' h' => K H locs cells slots ls' ⟨hA.1, hA.2.1, hA.2.2.1, hA.2.2.2.1, q_lv_st1 hA.2.2.2.2 (q_ok1_int hA.2.2.2.2 (q_ld_some hw)) rfl hL h'⟩ hc hs)
    · cases ha
  · cases ha
theorem qi_iadd (C : q_Cx G p R s m args meth c mi d) (hd : decode (q_by mi) pc = .ok (.iadd, n)) (hn : n = 1) (ha : q_do (qgT G) pc L st M (.iadd) n = some a) : q_Gd G p l e R s m args below meth c mi mc ms nM sM Q a (pc, L, st, M) := by
  subst hn
  unfold q_do at ha
  dsimp only at ha
  split at ha
  · cases ha
    exact ⟨_, rfl, fun _ _ K H locs cells slots ls hA hc hs => lv_iadd C.1 C.2.1 hd (K H locs cells slots ls hA hc hs)⟩
  · cases ha
theorem qi_isub (C : q_Cx G p R s m args meth c mi d) (hd : decode (q_by mi) pc = .ok (.isub, n)) (hn : n = 1) (ha : q_do (qgT G) pc L st M (.isub) n = some a) : q_Gd G p l e R s m args below meth c mi mc ms nM sM Q a (pc, L, st, M) := by
  subst hn
  unfold q_do at ha
  dsimp only at ha
  split at ha
  · cases ha
    exact ⟨_, rfl, fun _ _ K H locs cells slots ls hA hc hs => lv_isub C.1 C.2.1 hd (K H locs cells slots ls hA hc hs)⟩
  · cases ha
theorem qi_imul (C : q_Cx G p R s m args meth c mi d) (hd : decode (q_by mi) pc = .ok (.imul, n)) (hn : n = 1) (ha : q_do (qgT G) pc L st M (.imul) n = some a) : q_Gd G p l e R s m args below meth c mi mc ms nM sM Q a (pc, L, st, M) := by
  subst hn
  unfold q_do at ha
  dsimp only at ha
  split at ha
  · cases ha
    exact ⟨_, rfl, fun _ _ K H locs cells slots ls hA hc hs => lv_imul C.1 C.2.1 hd (K H locs cells slots ls hA hc hs)⟩
  · cases ha
theorem qi_iand (C : q_Cx G p R s m args meth c mi d) (hd : decode (q_by mi) pc = .ok (.iand, n)) (hn : n = 1) (ha : q_do (qgT G) pc L st M (.iand) n = some a) : q_Gd G p l e R s m args below meth c mi mc ms nM sM Q a (pc, L, st, M) := by
  subst hn
  unfold q_do at ha
  dsimp only at ha
  split at ha
  · cases ha
    exact ⟨_, rfl, fun _ _ K H locs cells slots ls hA hc hs => lv_iand C.1 C.2.1 hd (K H locs cells slots ls hA hc hs)⟩
  · cases ha
theorem qi_ior (C : q_Cx G p R s m args meth c mi d) (hd : decode (q_by mi) pc = .ok (.ior, n)) (hn : n = 1) (ha : q_do (qgT G) pc L st M (.ior) n = some a) : q_Gd G p l e R s m args below meth c mi mc ms nM sM Q a (pc, L, st, M) := by
  subst hn
  unfold q_do at ha
  dsimp only at ha
  split at ha
  · cases ha
    exact ⟨_, rfl, fun _ _ K H locs cells slots ls hA hc hs => lv_ior C.1 C.2.1 hd (K H locs cells slots ls hA hc hs)⟩
  · cases ha
theorem qi_ixor (C : q_Cx G p R s m args meth c mi d) (hd : decode (q_by mi) pc = .ok (.ixor, n)) (hn : n = 1) (ha : q_do (qgT G) pc L st M (.ixor) n = some a) : q_Gd G p l e R s m args below meth c mi mc ms nM sM Q a (pc, L, st, M) := by
  subst hn
  unfold q_do at ha
  dsimp only at ha
  split at ha
  · cases ha
    exact ⟨_, rfl, fun _ _ K H locs cells slots ls hA hc hs => lv_ixor C.1 C.2.1 hd (K H locs cells slots ls hA hc hs)⟩
  · cases ha
theorem qi_ishl (C : q_Cx G p R s m args meth c mi d) (hd : decode (q_by mi) pc = .ok (.ishl, n)) (hn : n = 1) (ha : q_do (qgT G) pc L st M (.ishl) n = some a) : q_Gd G p l e R s m args below meth c mi mc ms nM sM Q a (pc, L, st, M) := by
  subst hn
  unfold q_do at ha
  dsimp only at ha
  split at ha
  · cases ha
    exact ⟨_, rfl, fun _ _ K H locs cells slots ls hA hc hs => lv_ishl C.1 C.2.1 hd (K H locs cells slots ls hA hc hs)⟩
  · cases ha
theorem qi_ishr (C : q_Cx G p R s m args meth c mi d) (hd : decode (q_by mi) pc = .ok (.ishr, n)) (hn : n = 1) (ha : q_do (qgT G) pc L st M (.ishr) n = some a) : q_Gd G p l e R s m args below meth c mi mc ms nM sM Q a (pc, L, st, M) := by
  subst hn
  unfold q_do at ha
  dsimp only at ha
  split at ha
  · cases ha
    exact ⟨_, rfl, fun _ _ K H locs cells slots ls hA hc hs => lv_ishr C.1 C.2.1 hd (K H locs cells slots ls hA hc hs)⟩
  · cases ha
theorem qi_ladd (C : q_Cx G p R s m args meth c mi d) (hd : decode (q_by mi) pc = .ok (.ladd, n)) (hn : n = 1) (ha : q_do (qgT G) pc L st M (.ladd) n = some a) : q_Gd G p l e R s m args below meth c mi mc ms nM sM Q a (pc, L, st, M) := by
  subst hn
  unfold q_do at ha
  dsimp only at ha
  split at ha
  · cases ha
    exact ⟨_, rfl, fun _ _ K H locs cells slots ls hA hc hs => lv_ladd C.1 C.2.1 hd (K H locs cells slots ls hA hc hs)⟩
  · cases ha
theorem qi_lmul (C : q_Cx G p R s m args meth c mi d) (hd : decode (q_by mi) pc = .ok (.lmul, n)) (hn : n = 1) (ha : q_do (qgT G) pc L st M (.lmul) n = some a) : q_Gd G p l e R s m args below meth c mi mc ms nM sM Q a (pc, L, st, M) := by
  subst hn
  unfold q_do at ha
  dsimp only at ha
  split at ha
  · cases ha
    exact ⟨_, rfl, fun _ _ K H locs cells slots ls hA hc hs => lv_lmul C.1 C.2.1 hd (K H locs cells slots ls hA hc hs)⟩
  · cases ha
theorem qi_lcmp (C : q_Cx G p R s m args meth c mi d) (hd : decode (q_by mi) pc = .ok (.lcmp, n)) (hn : n = 1) (ha : q_do (qgT G) pc L st M (.lcmp) n = some a) : q_Gd G p l e R s m args below meth c mi mc ms nM sM Q a (pc, L, st, M) := by
  subst hn
  unfold q_do at ha
  dsimp only at ha
  split at ha
  · cases ha
    exact ⟨_, rfl, fun _ _ K H locs cells slots ls hA hc hs => W.lcmp C.1 C.2.1 hd (K H locs cells slots ls hA hc hs)⟩
  · cases ha
theorem qi_i2l (C : q_Cx G p R s m args meth c mi d) (hd : decode (q_by mi) pc = .ok (.i2l, n)) (hn : n = 1) (ha : q_do (qgT G) pc L st M (.i2l) n = some a) : q_Gd G p l e R s m args below meth c mi mc ms nM sM Q a (pc, L, st, M) := by
  subst hn
  unfold q_do at ha
  dsimp only at ha
  split at ha
  · cases ha
    exact ⟨_, rfl, fun _ _ K H locs cells slots ls hA hc hs => lv_i2l C.1 C.2.1 hd rfl (K H locs cells slots ls hA hc hs)⟩
  · cases ha
theorem qi_iushr (C : q_Cx G p R s m args meth c mi d) (hd : decode (q_by mi) pc = .ok (.iushr, n)) (hn : n = 1) (ha : q_do (qgT G) pc L st M (.iushr) n = some a) : q_Gd G p l e R s m args below meth c mi mc ms nM sM Q a (pc, L, st, M) := by
  subst hn
  unfold q_do at ha
  dsimp only at ha
  split at ha
  · cases ha
    exact ⟨_, rfl, fun _ _ K H locs cells slots ls hA hc hs => lv_iushr C.1 C.2.1 hd rfl (K H locs cells slots ls hA hc hs)⟩
  · cases ha
theorem qi_idiv (C : q_Cx G p R s m args meth c mi d) (hd : decode (q_by mi) pc = .ok (.idiv, n)) (hn : n = 1) (ha : q_do (qgT G) pc L st M (.idiv) n = some a) : q_Gd G p l e R s m args below meth c mi mc ms nM sM Q a (pc, L, st, M) := by
  subst hn
  unfold q_do at ha
  dsimp only at ha
  split at ha
  · split at ha
    · cases ha
    · next hz =>
      cases ha
      exact ⟨_, rfl, fun _ _ K H locs cells slots ls hA hc hs => lv_idiv C.1 C.2.1 hd hz (K H locs cells slots ls hA hc hs)⟩
  · cases ha
theorem qi_irem (C : q_Cx G p R s m args meth c mi d) (hd : decode (q_by mi) pc = .ok (.irem, n)) (hn : n = 1) (ha : q_do (qgT G) pc L st M (.irem) n = some a) : q_Gd G p l e R s m args below meth c mi mc ms nM sM Q a (pc, L, st, M) := by
  subst hn
  unfold q_do at ha
  dsimp only at ha
  split at ha
  · split at ha
    · cases ha
    · next hz =>
      cases ha
      exact ⟨_, rfl, fun _ _ K H locs cells slots ls hA hc hs => lv_irem C.1 C.2.1 hd hz (K H locs cells slots ls hA hc hs)⟩
  · cases ha
theorem qi_ldiv (C : q_Cx G p R s m args meth c mi d) (hd : decode (q_by mi) pc = .ok (.ldiv, n)) (hn : n = 1) (ha : q_do (qgT G) pc L st M (.ldiv) n = some a) : q_Gd G p l e R s m args below meth c mi mc ms nM sM Q a (pc, L, st, M) := by
  subst hn
  unfold q_do at ha
  dsimp only at ha
  split at ha
  · split at ha
    · cases ha
    · next hz =>
      cases ha
      exact ⟨_, rfl, fun _ _ K H locs cells slots ls hA hc hs => lv_ldiv C.1 C.2.1 hd hz (K H locs cells slots ls hA hc hs)⟩
  · cases ha
theorem qi_lrem (C : q_Cx G p R s m args meth c mi d) (hd : decode (q_by mi) pc = .ok (.lrem, n)) (hn : n = 1) (ha : q_do (qgT G) pc L st M (.lrem) n = some a) : q_Gd G p l e R s m args below meth c mi mc ms nM sM Q a (pc, L, st, M) := by
  subst hn
  unfold q_do at ha
  dsimp only at ha
  split at ha
  · split at ha
    · cases ha
    · next hz =>
      cases ha
      exact ⟨_, rfl, fun _ _ K H locs cells slots ls hA hc hs => lv_lrem C.1 C.2.1 hd hz (K H locs cells slots ls hA hc hs)⟩
  · cases ha
theorem q_chr_eq {x : Int32} (h : q_chr x = true) : (x.toUInt32 % 65536).toInt32 = x ∧ vp_nar .char x = x ∧ fits .char (.int x) = true := by
  unfold q_chr at h
  simp only [Bool.and_eq_true, decide_eq_true_eq] at h
  obtain ⟨j, hj, rfl⟩ := nI_of (x := x) (by rw [Int32.not_lt]; exact h.1)
  have h2 : j ≤ 65535 := (nI_leI hj (by decide)).mp h.2
  have h3 := pk_charN (q := j) (by omega)
  refine ⟨?_, ?_, h3.2⟩
  · rw [pk_char, pk_tn (by omega), Nat.mod_eq_of_lt (by omega)]
  · unfold vp_nar; rw [h3.1]
theorem q_bl_eq {x : Int32} (h : q_bl x = true) : narrow .boolean (.int x) = .int x ∧ vp_nar .boolean x = x ∧ fits .boolean (.int x) = true := by
  unfold q_bl at h
  simp only [Bool.or_eq_true, decide_eq_true_eq] at h
  rcases h with rfl | rfl <;> decide
theorem qi_i2c (C : q_Cx G p R s m args meth c mi d) (hd : decode (q_by mi) pc = .ok (.i2c, n)) (hn : n = 1) (ha : q_do (qgT G) pc L st M (.i2c) n = some a) : q_Gd G p l e R s m args below meth c mi mc ms nM sM Q a (pc, L, st, M) := by
  subst hn
  unfold q_do at ha
  dsimp only at ha
  split at ha
  · next x r =>
    cases hx : q_chr x with
    | false => rw [hx] at ha; cases ha
    | true =>
      rw [hx] at ha
      cases ha
      exact ⟨_, rfl, fun _ _ K H locs cells slots ls hA hc hs => lv_i2c C.1 C.2.1 hd (q_chr_eq hx).1 (K H locs cells slots ls hA hc hs)⟩
  · cases ha
theorem qi_dup (C : q_Cx G p R s m args meth c mi d) (hd : decode (q_by mi) pc = .ok (.dup, n)) (hn : n = 1) (ha : q_do (qgT G) pc L st M (.dup) n = some a) : q_Gd G p l e R s m args below meth c mi mc ms nM sM Q a (pc, L, st, M) := by
  subst hn
  unfold q_do at ha
  dsimp only at ha
  split at ha
  · cases ha
    exact ⟨_, rfl, fun _ _ K H locs cells slots ls hA hc hs => lv_dup C.1 C.2.1 hd rfl (K H locs cells slots ls hA hc hs)⟩
  · cases ha
    exact ⟨_, rfl, fun _ _ K H locs cells slots ls hA hc hs => lv_dup C.1 C.2.1 hd rfl (K H locs cells slots ls hA hc hs)⟩
  · cases ha
theorem qi_dup2 (C : q_Cx G p R s m args meth c mi d) (hd : decode (q_by mi) pc = .ok (.dup2, n)) (hn : n = 1) (ha : q_do (qgT G) pc L st M (.dup2) n = some a) : q_Gd G p l e R s m args below meth c mi mc ms nM sM Q a (pc, L, st, M) := by
  subst hn
  unfold q_do at ha
  dsimp only at ha
  split at ha
  · cases ha
    exact ⟨_, rfl, fun _ _ K H locs cells slots ls hA hc hs => lv_dup2_11 C.1 C.2.1 hd rfl rfl (K H locs cells slots ls hA hc hs)⟩
  · cases ha
theorem qi_pop (C : q_Cx G p R s m args meth c mi d) (hd : decode (q_by mi) pc = .ok (.pop, n)) (hn : n = 1) (ha : q_do (qgT G) pc L st M (.pop) n = some a) : q_Gd G p l e R s m args below meth c mi mc ms nM sM Q a (pc, L, st, M) := by
  subst hn
  unfold q_do at ha
  dsimp only at ha
  split at ha
  · cases ha
    exact ⟨_, rfl, fun _ _ K H locs cells slots ls hA hc hs => lv_pop C.1 C.2.1 hd rfl (K H locs cells slots ls hA hc hs)⟩
  · cases ha
theorem q_tgt {pc : Nat} {o : Int} (h : 0 ≤ (pc : Int) + o) : (pc : Int) + o = (((pc : Int) + o).toNat : Int) := by omega
theorem qi_goto {o : Int} (ho : 0 ≤ (pc : Int) + o) (C : q_Cx G p R s m args meth c mi d) (hd : decode (q_by mi) pc = .ok (.goto o, n)) (hn : n = 3) (ha : q_do (qgT G) pc L st M (.goto ((pc : Int) + o)) n = some a) : q_Gd G p l e R s m args below meth c mi mc ms nM sM Q a (pc, L, st, M) := by
  subst hn
  cases ha
  exact ⟨_, rfl, fun _ _ K H locs cells slots ls hA hc hs => lv_goto C.1 C.2.1 hd (q_tgt ho) (K H locs cells slots ls hA hc hs)⟩
theorem qi_ifCond {cd : ClassFile.Cond} {o : Int} (ho : 0 ≤ (pc : Int) + o) (C : q_Cx G p R s m args meth c mi d) (hd : decode (q_by mi) pc = .ok (.ifCond cd o, n)) (hn : n = 3) (ha : q_do (qgT G) pc L st M (.ifCond cd ((pc : Int) + o)) n = some a) : q_Gd G p l e R s m args below meth c mi mc ms nM sM Q a (pc, L, st, M) := by
  subst hn
  unfold q_do at ha
  dsimp only at ha
  split at ha
  · cases ha
    refine ⟨_, rfl, fun _ _ K H locs cells slots ls hA hc hs => ?_⟩
    have K := K H locs cells slots ls hA hc hs
    cases cd
    · refine lv_if_eq C.1 C.2.1 hd (q_tgt ho) (fun h => ?_) (fun h => ?_)
      · simp only [q_cmp, if_pos h] at K
        exact K
      · simp only [q_cmp, if_neg h] at K
        exact K
    · refine lv_if_ne C.1 C.2.1 hd (q_tgt ho) (fun h => ?_) (fun h => ?_)
      · simp only [q_cmp, if_neg h] at K
        exact K
      · simp only [q_cmp, if_pos h] at K
        exact K
    · refine lv_if_lt C.1 C.2.1 hd (q_tgt ho) (fun h => ?_) (fun h => ?_)
      · simp only [q_cmp, if_pos h] at K
        exact K
      · simp only [q_cmp, if_neg h] at K
        exact K
    · refine lv_if_ge C.1 C.2.1 hd (q_tgt ho) (fun h => ?_) (fun h => ?_)
      · simp only [q_cmp, if_pos h] at K
        exact K
      · simp only [q_cmp, if_neg h] at K
        exact K
    · refine lv_if_gt C.1 C.2.1 hd (q_tgt ho) (fun h => ?_) (fun h => ?_)
      · simp only [q_cmp, if_pos h] at K
        exact K
      · simp only [q_cmp, if_neg h] at K
        exact K
    · refine lv_if_le C.1 C.2.1 hd (q_tgt ho) (fun h => ?_) (fun h => ?_)
      · simp only [q_cmp, if_pos h] at K
        exact K
      · simp only [q_cmp, if_neg h] at K
        exact K
  · cases ha
theorem qi_if_icmp {cd : ClassFile.Cond} {o : Int} (ho : 0 ≤ (pc : Int) + o) (C : q_Cx G p R s m args meth c mi d) (hd : decode (q_by mi) pc = .ok (.if_icmp cd o, n)) (hn : n = 3) (ha : q_do (qgT G) pc L st M (.if_icmp cd ((pc : Int) + o)) n = some a) : q_Gd G p l e R s m args below meth c mi mc ms nM sM Q a (pc, L, st, M) := by
  subst hn
  unfold q_do at ha
  dsimp only at ha
  split at ha
  · cases ha
    refine ⟨_, rfl, fun _ _ K H locs cells slots ls hA hc hs => ?_⟩
    have K := K H locs cells slots ls hA hc hs
    cases cd
    · refine lv_icmp_eq C.1 C.2.1 hd (q_tgt ho) (fun h => ?_) (fun h => ?_)
      · simp only [q_cmp, if_pos h] at K
        exact K
      · simp only [q_cmp, if_neg h] at K
        exact K
    · refine lv_icmp_ne C.1 C.2.1 hd (q_tgt ho) (fun h => ?_) (fun h => ?_)
      · simp only [q_cmp, if_neg h] at K
        exact K
      · simp only [q_cmp, if_pos h] at K
        exact K
    · refine lv_icmp_lt C.1 C.2.1 hd (q_tgt ho) (fun h => ?_) (fun h => ?_)
      · simp only [q_cmp, if_pos h] at K
        exact K
      · simp only [q_cmp, if_neg h] at K
        exact K
    · refine lv_icmp_ge C.1 C.2.1 hd (q_tgt ho) (fun h => ?_) (fun h => ?_)
      · simp only [q_cmp, if_pos h] at K
        exact K
      · simp only [q_cmp, if_neg h] at K
        exact K
    · refine lv_icmp_gt C.1 C.2.1 hd (q_tgt ho) (fun h => ?_) (fun h => ?_)
      · simp only [q_cmp, if_pos h] at K
        exact K
      · simp only [q_cmp, if_neg h] at K
        exact K
    · refine lv_icmp_le C.1 C.2.1 hd (q_tgt ho) (fun h => ?_) (fun h => ?_)
      · simp only [q_cmp, if_pos h] at K
        exact K
      · simp only [q_cmp, if_neg h] at K
        exact K
  · cases ha
theorem q_sw_in (x : Int32) (dd : Int) : ∀ (ts : List Int) (lo : Int), -1000000 ≤ lo → lo + ts.length - 1 ≤ 1000000 → ∀ (j : Nat) (t : Int), ts[j]? = some t → x.toInt = lo + j → q_sw x dd lo ts = t
  | [], lo, _, _, j, t, h, _ => by simp at h
  | u :: ts, lo, h1, h2, j, t, h, hx => by
    have hl : (lo + 0 : Int) ≤ 1000000 := by simp at h2; omega
    have e : (Int32.ofInt lo).toInt = lo := Int32.toInt_ofInt_of_le (by omega) (by omega)
    unfold q_sw
    cases j with
    | zero =>
      rw [List.getElem?_cons_zero] at h
      cases h
      rw [if_pos]
      apply Int32.toInt_inj.mp
      rw [e, hx]
      simp
    | succ j =>
      rw [List.getElem?_cons_succ] at h
      rw [if_neg (fun z => by rw [z, e] at hx; omega)]
      exact q_sw_in x dd ts (lo + 1) (by omega) (by simp at h2; omega) j t h (by rw [hx]; push_cast; omega)
theorem q_sw_out (x : Int32) (dd : Int) : ∀ (ts : List Int) (lo : Int), -1000000 ≤ lo → lo + ts.length - 1 ≤ 1000000 → (x.toInt < lo ∨ lo + ts.length - 1 < x.toInt) → q_sw x dd lo ts = dd
  | [], lo, _, _, _ => rfl
  | u :: ts, lo, h1, h2, h => by
    have hl : (lo + 0 : Int) ≤ 1000000 := by simp at h2; omega
    have e : (Int32.ofInt lo).toInt = lo := Int32.toInt_ofInt_of_le (by omega) (by omega)
    unfold q_sw
    rw [if_neg (fun z => by rw [z, e] at h; simp at h; omega)]
    exact q_sw_out x dd ts (lo + 1) (by omega) (by simp at h2; omega) (by simp at h; omega)
theorem qi_tableswitch {dd lo hi : Int} {offs : Array Int} (ho : 0 ≤ (pc : Int) + dd ∧ (∀ o ∈ offs.toList, 0 ≤ (pc : Int) + o) ∧ hi = lo + offs.toList.length - 1 ∧ -1000000 ≤ lo ∧ hi ≤ 1000000) (C : q_Cx G p R s m args meth c mi d) (hd : decode (q_by mi) pc = .ok (.tableswitch dd lo hi offs, n)) (ha : q_do (qgT G) pc L st M (.tableswitch ((pc : Int) + dd) lo hi (offs.toList.map (fun o : Int => (pc : Int) + o)).toArray) n = some a) : q_Gd G p l e R s m args below meth c mi mc ms nM sM Q a (pc, L, st, M) := by
  unfold q_do at ha
  dsimp only at ha
  split at ha
  · next x r =>
    cases ha
    refine ⟨_, rfl, fun _ _ K H locs cells slots ls hA hc hs => ?_⟩
    have K := K H locs cells slots ls hA hc hs
    obtain ⟨h1, h2, h3, h4, h5⟩ := ho
    have hl : ((offs.toList.map (fun o : Int => (pc : Int) + o)).length : Int) = offs.toList.length := by rw [List.length_map]
    by_cases hin : x.toInt < lo ∨ hi < x.toInt
    · refine lv_tableOut (tgt := ((pc : Int) + dd).toNat) C.1 C.2.1 hd hin (q_tgt h1) ?_
      have e : q_sw x ((pc : Int) + dd) lo (offs.toList.map (fun o : Int => (pc : Int) + o)) = (pc : Int) + dd := q_sw_out x _ _ lo h4 (by rw [hl]; omega) (by rw [hl]; omega)
      simp only [List.toList_toArray, e] at K
      exact K
    · have hn1 : ¬ x.toInt < lo := fun z => hin (Or.inl z)
      have hn2 : ¬ hi < x.toInt := fun z => hin (Or.inr z)
      have hj : (x.toInt - lo).toNat < offs.toList.length := by omega
      obtain ⟨o, hoo⟩ : ∃ o, offs.toList[(x.toInt - lo).toNat]? = some o := ⟨_, List.getElem?_eq_getElem hj⟩
      have e : q_sw x ((pc : Int) + dd) lo (offs.toList.map (fun o : Int => (pc : Int) + o)) = (pc : Int) + o := q_sw_in x _ _ lo h4 (by rw [hl]; omega) (x.toInt - lo).toNat _ (by rw [List.getElem?_map, hoo]; rfl) (by omega)
      simp only [List.toList_toArray, e] at K
      refine lv_tableIn (tgt := ((pc : Int) + o).toNat) C.1 C.2.1 hd hn1 hn2 (by rw [← Array.getElem?_toList]; exact hoo) (q_tgt (h2 o (List.mem_of_getElem? hoo))) K
  · cases ha
end QI
