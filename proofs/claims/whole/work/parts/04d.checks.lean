def q_fin (e : Nat) : Bool := (q_T (e / 100) (e % 100)).2.2.2
def q_sp (t : Int) (i : Instr) : Option Instr := if 0 ≤ t then some i else none
def q_cv (mi pc : Nat) (r : Instr) : Option Instr := match r with
  | .aload_n k => some (.aload k)
  | .iload_n k => some (.iload k)
  | .lload_n k => some (.lload k)
  | .astore_n k => cond (q_lg mi) none (some (.astore k))
  | .istore_n k => some (cond (q_lg mi) (.fstore k) (.istore k))
  | .lstore_n k => cond (q_lg mi) (some (.lstore k)) none
  | .aload j => some (.aload j)
  | .iload j => some (.iload j)
  | .lload j => some (.lload j)
  | .astore j => cond (q_lg mi) none (some (.astore j))
  | .istore j => some (cond (q_lg mi) (.fstore j) (.istore j))
  | .lstore j => cond (q_lg mi) (some (.lstore j)) none
  | .iconst c => some (.iconst c)
  | .bipush c => if (Int8.ofInt c).toInt32 = Int32.ofInt c then some (.iconst c) else none
  | .sipush c => if (Int16.ofInt c).toInt32 = Int32.ofInt c then some (.iconst c) else none
  | .ldc i => (q_fnd q_ck (q_rc mi) i).map (fun c => .iconst c.1)
  | .ldc_w i => (q_fnd q_ck (q_rc mi) i).map (fun c => .iconst c.1)
  | .lconst k => some (.bipush ((k : Nat) : Int))
  | .ldc2_w i => (q_fnd q_cj (q_rc mi) i).map (fun c => .bipush c.1)
  | .iinc j c => some (.iinc j c)
  | .iadd => some .iadd
  | .isub => some .isub
  | .imul => some .imul
  | .iand => some .iand
  | .ior => some .ior
  | .ixor => some .ixor
  | .idiv => some .idiv
  | .irem => some .irem
  | .ishl => some .ishl
  | .ishr => some .ishr
  | .iushr => some .iushr
  | .ladd => some .ladd
  | .lmul => some .lmul
  | .ldiv => some .ldiv
  | .lrem => some .lrem
  | .lcmp => some .lcmp
  | .i2l => some .i2l
  | .i2c => some .i2c
  | .dup => some .dup
  | .dup2 => some .dup2
  | .pop => some .pop
  | .goto o => q_sp (pc + o) (.goto (pc + o))
  | .ifCond c o => q_sp (pc + o) (.ifCond c (pc + o))
  | .if_icmp c o => q_sp (pc + o) (.if_icmp c (pc + o))
  | .tableswitch d lo hi offs => if 0 ≤ (pc : Int) + d ∧ (∀ o ∈ offs.toList, 0 ≤ (pc : Int) + o) ∧ hi = lo + offs.toList.length - 1 ∧ -1000000 ≤ lo ∧ hi ≤ 1000000 then some (.tableswitch (pc + d) lo hi (offs.toList.map (fun o : Int => (pc : Int) + o)).toArray) else none
  | .getfield i => (q_fnd q_fl (q_rc mi) i).map (fun e => .getfield e.1)
  | .putfield i => (match q_fnd q_fl (q_rc mi) i with
    | some (e, _) => if q_fin e = false ∨ ((q_y mi).name = "<init>" ∧ q_rc mi = e / 100) then some (.putfield e) else none
    | none => none)
  | .getstatic i => (q_fnd q_fs (q_rc mi) i).map (fun e => .getstatic e.1)
  | .iaload => some .iaload
  | .caload => some .caload
  | .baload => some .baload
  | .iastore => some .iastore
  | .castore => some .castore
  | .bastore => some .bastore
  | .arraylength => some .arraylength
  | .new i => (q_fnd q_kl (q_rc mi) i).map (fun e => .new e.1)
  | .newarray t => some (.newarray t)
  | .invokevirtual i => (match q_fnd q_mk (q_rc mi) i with
    | some (mj, _) => if q_st mj = 0 ∧ mj < 171 then some (.invokevirtual mj) else none
    | none => none)
  | .invokespecial i => (match q_fnd q_mk (q_rc mi) i with
    | some (mj, _) => if mj = 901 ∨ (q_st mj = 2 ∧ mj < 171) then some (.invokespecial mj) else none
    | none => (match q_fnd q_mn (q_rc mi) i with
      | some (mj, _) => if q_st mj = 2 ∧ mj < 171 then some (.invokespecial mj) else none
      | none => none))
  | .invokestatic i => (match q_fnd q_mk (q_rc mi) i with
    | some (mj, _) => if mj = 900 ∨ mj = 902 ∨ mj = 903 ∨ (q_st mj = 1 ∧ mj < 171) then some (.invokestatic mj) else none
    | none => none)
  | .ireturn => (match q_rt mi with
    | some .int => some .ireturn
    | some .boolean => some .freturn
    | _ => none)
  | .lreturn => (match q_rt mi with
    | some .long => some .lreturn
    | _ => none)
  | .areturn => (match q_rt mi with
    | some (.object _) => some .areturn
    | _ => none)
  | .return_ => (match q_rt mi with
    | none => some .return_
    | _ => none)
  | _ => none
/-- how long the instruction is -/
def q_ln (r : Instr) : Nat := match r with
  | .aload _ => 2
  | .iload _ => 2
  | .lload _ => 2
  | .astore _ => 2
  | .istore _ => 2
  | .lstore _ => 2
  | .bipush _ => 2
  | .sipush _ => 3
  | .ldc _ => 2
  | .ldc_w _ => 3
  | .ldc2_w _ => 3
  | .iinc _ _ => 3
  | .goto _ => 3
  | .ifCond _ _ => 3
  | .if_icmp _ _ => 3
  | .tableswitch _ _ _ _ => 0
  | .getfield _ => 3
  | .putfield _ => 3
  | .getstatic _ => 3
  | .new _ => 3
  | .newarray _ => 2
  | .invokevirtual _ => 3
  | .invokespecial _ => 3
  | .invokestatic _ => 3
  | _ => 1
noncomputable def q_chk1 (mi pc : Nat) : Bool := match q_code mi pc with
  | none => true
  | some (i, n) => match decode (q_by mi) pc with
    | .ok (r, m) => decide (m = n) && ((Nat.beq (q_ln r) 0 || Nat.beq (q_ln r) n) && decide (q_cv mi pc r = some i))
    | _ => false
noncomputable def q_chk (mi : Nat) : Bool := (List.range (q_len mi)).all (q_chk1 mi)
