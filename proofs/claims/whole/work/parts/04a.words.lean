/-! the resolved instructions are the claim's own: checked by program over each method's bytes; the words of the tables by their places -/
def q_fnd {α : Type} : List (Nat × Nat × α) → Nat → Nat → Option α
  | [], _, _ => none
  | (a, b, v) :: l, o, i => cond (Nat.beq a o && Nat.beq b i) (some v) (q_fnd l o i)
theorem q_fnd_mem {α : Type} {o i : Nat} {v : α} : ∀ {t : List (Nat × Nat × α)}, q_fnd t o i = some v → (o, i, v) ∈ t
  | [], h => by cases h
  | (a, b, w) :: l, h => by
    unfold q_fnd at h
    cases hc : (Nat.beq a o && Nat.beq b i) with
    | true =>
      rw [hc] at h
      simp only [Bool.and_eq_true] at hc
      have e1 : a = o := Nat.eq_of_beq_eq_true hc.1
      have e2 : b = i := Nat.eq_of_beq_eq_true hc.2
      cases h
      rw [e1, e2]
      exact List.mem_cons_self
    | false =>
      rw [hc] at h
      exact List.mem_cons_of_mem _ (q_fnd_mem h)
def q_tbl : List Cond := lw_tbl.filter goodWord
theorem q_tbl_good : GoodIn q_tbl q_tbl := fun w hw => ⟨hw, good_of_word (List.mem_filter.mp hw).2⟩
theorem q_tw {w : Cond} (p : Nat) (h : lw_tbl[p]? = some w) (hg : goodWord w = true) : w ∈ q_tbl := List.mem_filter.mpr ⟨List.mem_of_getElem? h, hg⟩
def q_wat (p : Nat) (w : Cond) : Bool := decide (lw_tbl[p]? = some w) && goodWord w
theorem q_wat_mem {p : Nat} {w : Cond} (h : q_wat p w = true) : w ∈ q_tbl := by
  simp only [q_wat, Bool.and_eq_true, decide_eq_true_eq] at h
  exact q_tw p h.1 h.2
def q_own (mi : Nat) : String := q_cn (q_rc mi)
abbrev q_y (mi : Nat) : MethodName := (q_me mi).2.1
abbrev q_by (mi : Nat) : ByteArray := (q_me mi).2.2.1
abbrev q_mx (mi : Nat) : Nat := (q_me mi).2.2.2.1
abbrev q_rt (mi : Nat) : Option FieldType := (q_me mi).2.2.2.2
def q_flc (o i e : Nat) : Cond := .fieldLink (q_cn o) i (q_T (e / 100) (e % 100)).1 (q_T (e / 100) (e % 100)).2.1 (q_T (e / 100) (e % 100)).2.2.1
def q_sn (e : Nat) : String := if e = 1001 then "KIND_TRACE" else "KIND_ABOVE"
theorem q_fl_all : q_fl.all (fun x => q_wat x.2.2.2 (q_flc x.1 x.2.1 x.2.2.1) && (Nat.blt (x.2.2.1 / 100) 9 && Nat.blt (x.2.2.1 % 100) (q_N (x.2.2.1 / 100)))) = true := by decide +kernel
theorem q_fs_all : q_fs.all (fun x => q_wat x.2.2.2 (.fieldLink (q_cn x.1) x.2.1 "AlwaysThere" (q_sn x.2.2.1) "[I") && (Nat.beq x.2.2.1 1001 || Nat.beq x.2.2.1 1002)) = true := by decide +kernel
def q_acp : MethodName := ⟨"java/lang/System", "arraycopy", "(Ljava/lang/Object;ILjava/lang/Object;II)V"⟩
def q_oin : MethodName := ⟨"java/lang/Object", "<init>", "()V"⟩
def q_yy (mj : Nat) : MethodName := if mj = 900 then q_acp else if mj = 901 then q_oin else if mj = 902 then Lib.Math.min.name else if mj = 903 then Lib.Math.max.name else q_y mj
theorem q_mk_all : q_mk.all (fun x => q_wat x.2.2.2 (.methodLink (q_cn x.1) x.2.1 (q_yy x.2.2.1))) = true := by decide +kernel
theorem q_mn_all : q_mn.all (fun x => decide (lw_tbl[x.2.2.2]? = some (.methodLinkNest (q_cn x.1) x.2.1 (q_y x.2.2.1) "AlwaysThere"))) = true := by decide +kernel
theorem q_kl_all : q_kl.all (fun x => q_wat x.2.2.2 (.classLink (q_cn x.1) x.2.1 (q_cn x.2.2.1)) && Nat.blt x.2.2.1 9) = true := by decide +kernel
theorem q_ck_all : q_ck.all (fun x => q_wat x.2.2.2 (.constant (q_cn x.1) x.2.1 (Int32.ofInt x.2.2.1))) = true := by decide +kernel
theorem q_cj_all : q_cj.all (fun x => q_wat x.2.2.2 (.constantLong (q_cn x.1) x.2.1 (Int64.ofInt x.2.2.1))) = true := by decide +kernel
theorem q_in_all : (List.range 9).all (fun ci => q_wat (q_inP.getD ci 0) (.instantiable (q_cn ci) (q_N ci)) && q_wat (q_iiP.getD ci 0) (.initialized (q_cn ci))) = true := by decide +kernel
def q_layP : List Nat := [326, 328, 330, 332, 334, 254, 256, 258, 148, 150, 152, 154, 156, 158, 160, 162, 164, 166, 168, 227, 229, 231, 233, 235, 237, 239, 241, 183, 185, 187, 189, 191, 193, 195, 282, 284, 286, 288, 290, 292, 308, 310, 312, 348, 350, 352, 354, 356, 358, 360, 362, 364, 366, 855, 857, 859, 861, 863, 865, 867, 869, 871, 873, 875, 877, 879, 881, 883, 885, 887, 889, 891, 893, 895]
def q_fields : List (Nat × Nat) := [(0, 0), (0, 1), (0, 2), (0, 3), (0, 4), (1, 0), (1, 1), (1, 2), (2, 0), (2, 1), (2, 2), (2, 3), (2, 4), (2, 5), (2, 6), (2, 7), (2, 8), (2, 9), (2, 10), (3, 0), (3, 1), (3, 2), (3, 3), (3, 4), (3, 5), (3, 6), (3, 7), (4, 0), (4, 1), (4, 2), (4, 3), (4, 4), (4, 5), (4, 6), (5, 0), (5, 1), (5, 2), (5, 3), (5, 4), (5, 5), (6, 0), (6, 1), (6, 2), (7, 0), (7, 1), (7, 2), (7, 3), (7, 4), (7, 5), (7, 6), (7, 7), (7, 8), (7, 9), (8, 0), (8, 1), (8, 2), (8, 3), (8, 4), (8, 5), (8, 6), (8, 7), (8, 8), (8, 9), (8, 10), (8, 11), (8, 12), (8, 13), (8, 14), (8, 15), (8, 16), (8, 17), (8, 18), (8, 19), (8, 20)]
theorem q_lay_all : (q_fields.zip q_layP).all (fun x => q_wat x.2 (u_lay (q_cn x.1.1) (q_T x.1.1) x.1.2)) = true := by decide +kernel
theorem q_ft_all : ∀ ci, ci < 9 → ∀ k, k < q_N ci → parseFieldDescriptor (q_T ci k).2.2.1 = some (q_ft ci k) := by decide +kernel
theorem q_nm_all : ∀ ci, ci < 9 → ∀ a, a < q_N ci → ∀ b, b < q_N ci → a ≠ b → (q_T ci a).2.1 ≠ (q_T ci b).2.1 := by decide +kernel
theorem q_dc_all : ∀ ci, ci < 9 → ∀ k, k < q_N ci → (q_T ci k).1 = q_cn ci := by decide +kernel
/-- kinds and types agree -/
theorem q_fk_all : ∀ ci, ci < 9 → ∀ k, k < q_N ci → (q_fk ci k = 0 ∧ q_ft ci k = .int) ∨ (q_fk ci k = 1 ∧ q_ft ci k = .long) ∨ (q_fk ci k = 3 ∧ q_ft ci k = .boolean) ∨ (q_fk ci k = 2 ∧ fits (q_ft ci k) .null = true ∧ defaultValue (q_ft ci k) = .null ∧ fits (q_ft ci k) (.ref 0) = true) := by decide +kernel
theorem q_ar_all : q_wat 172 (.arrayClass .int) = true ∧ q_wat 171 (.arrayClass .char) = true ∧ q_wat 337 (.arrayClass .boolean) = true := by decide +kernel
theorem q_cp_all : q_wat 474 (.native q_acp) = true ∧ q_wat 473 (.static q_acp) = true ∧ q_wat 76 (.initialized "java/lang/System") = true := by decide +kernel
theorem q_mm_all : q_wat 114 (.static Lib.Math.min.name) = true ∧ q_wat 69 (.initialized "java/lang/Math") = true ∧ q_wat 115 (.code Lib.Math.min.name Lib.Math.min.code 2 (some .int)) = true := by decide +kernel
theorem q_mx_all : q_wat 399 (.static Lib.Math.max.name) = true ∧ q_wat 69 (.initialized "java/lang/Math") = true ∧ q_wat 400 (.code Lib.Math.max.name Lib.Math.max.code 2 (some .int)) = true := by decide +kernel
theorem q_oi_all : q_wat 84 (.instanceMethod q_oin) = true ∧ q_wat 85 (.code q_oin ⟨#[0xb1]⟩ 1 none) = true := by decide +kernel
def q_mchk (mi : Nat) : Bool := (match q_mP.getD mi (0, 0, 0, 0) with
  | (pc, pi, ps, pn) => q_wat pc (.code (q_y mi) (q_by mi) (q_mx mi) (q_rt mi)) && (q_wat pn (.initialized (q_y mi).cls) && (match q_st mi with
    | 0 => q_wat pi (.instanceMethod (q_y mi)) && q_wat ps (.selects (q_y mi).cls (q_y mi) (q_y mi))
    | 1 => q_wat pi (.static (q_y mi))
    | 2 => q_wat pi (.instanceMethod (q_y mi)) && (decide ((q_y mi).name = "<init>") && decide (q_rt mi = none))
    | _ => false)))
def q_mch2 (mi : Nat) : Bool := plainName (q_y mi).cls && (decide ((q_y mi).cls ≠ "java/lang/invoke/MethodHandle") && (decide ((q_y mi).cls ≠ "java/lang/invoke/VarHandle") && (decide ((parseMethodDescriptor (q_y mi).desc).map (fun d => d.parameters.length) = some (q_na mi)) && (decide (q_ml mi = q_mx mi) && (decide (q_own mi = (q_y mi).cls) && (Nat.ble (q_ml mi) 45 && Nat.ble (q_na mi + (if q_st mi = 1 then 0 else 1)) (q_ml mi)))))))
