/-! A small machine over flat memory: shape (class or kind of array, length) of each cell, ints of the class's cells, ints of the reference's cells, longs, references. Its instructions are the claim's, resolved (gen02.py): 'bipush' is a long constant, 'freturn' returns a boolean, jumps are absolute, fields are class * 100 + place, calls are by the number of the method; 900 System.arraycopy, 901 Object's constructor. -/
abbrev qM : Type := List (Nat × Nat) × (Nat → Nat → Int32) × (Nat → Nat → Int32) × (Nat → Int64) × List (Nat × Nat × Nat)
abbrev qS : Type := Nat × List (Option Value) × List Value × qM
abbrev qR : Type := qS ⊕ (Option Value ⊕ (Nat × List Value × qS))
def q_in (i : Int32) (n : Nat) : Bool := !(decide (i < 0) || decide (n ≤ i.toNatClampNeg))
def q_bl (x : Int32) : Bool := decide (x = 0) || decide (x = 1)
def q_chr (x : Int32) : Bool := decide (0 ≤ x) && decide (x ≤ 65535)
def q_nth {α : Type} : List α → Nat → Option α
  | [], _ => none
  | a :: _, 0 => some a
  | _ :: l, k + 1 => q_nth l k
/-- where a cell's row stands: the cells of the first class keep their places, two later ones stand behind -/
def q_pm (k : Nat) : Nat := cond (Nat.blt k 9) k (cond (Nat.blt k 11) (k + 61) (cond (Nat.blt k 72) (k - 2) k))
def q_row (M : qM) (k : Nat) : Nat → Int32 := cond (Nat.blt k 58) (M.2.1 (q_pm k)) (M.2.2.1 (q_pm k))
def q_put (M : qM) (k : Nat) (f : Nat → Int32) : qM := cond (Nat.blt k 58) (M.1, va_up M.2.1 (q_pm k) f, M.2.2.1, M.2.2.2) (M.1, M.2.1, va_up M.2.2.1 (q_pm k) f, M.2.2.2)
def q_lput (M : qM) (k : Nat) (x : Int64) : qM := (M.1, M.2.1, M.2.2.1, va_up M.2.2.2.1 (q_pm k) x, M.2.2.2.2)
/-- what a reference field holds: the latest row of it -/
def q_rg : List (Nat × Nat × Nat) → Nat → Nat → Option Nat
  | [], _, _ => none
  | (a, b, r) :: l, k, j => cond (Nat.beq a k && Nat.beq b j) (some r) (q_rg l k j)
def q_rput (M : qM) (k j r : Nat) : qM := (M.1, M.2.1, M.2.2.1, M.2.2.2.1, (k, j, r) :: M.2.2.2.2)
def q_new (M : qM) (sh : Nat × Nat) : qM := q_put (M.1 ++ [sh], M.2.1, M.2.2.1, va_up M.2.2.2.1 (q_pm M.1.length) 0, M.2.2.2.2.filter (fun x => !(Nat.beq x.1 M.1.length))) M.1.length (fun _ => 0)
def q_ref (r : Option Nat) : Value := match r with
  | some a => .ref a
  | none => .null
def q_fv (M : qM) (k ci j : Nat) : Value := match q_fk ci j with
  | 1 => .long (M.2.2.2.1 (q_pm k))
  | 2 => q_ref (q_rg M.2.2.2.2 k j)
  | _ => .int (q_row M k j)
def q_nx (pc : Nat) (L : List (Option Value)) (st : List Value) (M : qM) : Option qR := some (.inl (pc, L, st, M))
def q_ld (L : List (Option Value)) (i : Nat) : Option Value := match q_nth L i with
  | some (some v) => some v
  | _ => none
def q_ok1 (L : List (Option Value)) (i : Nat) : Bool := match i with
  | 0 => true
  | j + 1 => match q_nth L j with
    | some (some w) => Nat.beq w.category 1
    | _ => true
def q_st1 (L : List (Option Value)) (i : Nat) (v : Value) : Option (List (Option Value)) := cond (Nat.blt i L.length) (some (L.set i (some v))) none
/-- where longs stand among the locals -/
def q_st1c (L : List (Option Value)) (i : Nat) (v : Value) : Option (List (Option Value)) := cond (Nat.blt i L.length && q_ok1 L i) (some (L.set i (some v))) none
def q_st2 (L : List (Option Value)) (i : Nat) (v : Value) : Option (List (Option Value)) := cond (Nat.blt (i + 1) L.length && q_ok1 L i) (some ((L.set i (some v)).set (i + 1) none)) none
def q_split : Nat → List Value → List Value → Option (List Value × List Value)
  | 0, st, acc => some (acc, st)
  | _ + 1, [], _ => none
  | n + 1, v :: st, acc => q_split n st (v :: acc)
def q_sum (st : List Value) : Nat := (st.map (fun v => v.category)).sum
def q_one (As : List Value) : Bool := As.all (fun v => Nat.beq v.category 1)
def q_sw (x : Int32) (d : Int) : Int → List Int → Int
  | _, [] => d
  | k, t :: ts => if x = Int32.ofInt k then t else q_sw x d (k + 1) ts
def q_cmp (c : ClassFile.Cond) (x y : Int32) (a b : Nat) : Nat := match c with
  | .eq => if x = y then a else b
  | .ne => if x = y then b else a
  | .lt => if x < y then a else b
  | .ge => if y ≤ x then a else b
  | .gt => if y < x then a else b
  | .le => if x ≤ y then a else b
def q_callV (pc : Nat) (L : List (Option Value)) (st : List Value) (M : qM) (mj : Nat) : Option qR := match q_split (q_na mj) st [] with
  | some (As, .ref b :: rest) => (match q_nth M.1 b with
    | some (ci, _) => cond (Nat.beq ci (q_rc mj) && (Nat.ble (q_sum rest) 8 && q_one As)) (some (.inr (.inr (mj, .ref b :: As, (pc, L, rest, M))))) none
    | none => none)
  | _ => none
def q_callS (pc : Nat) (L : List (Option Value)) (st : List Value) (M : qM) (mj : Nat) : Option qR := match q_split (q_na mj) st [] with
  | some (As, rest) => cond (Nat.ble (q_sum rest) 8 && q_one As) (some (.inr (.inr (mj, As, (pc, L, rest, M))))) none
  | none => none
def q_len0 (M : qM) (k tag : Nat) : Option Nat := match q_nth M.1 k with
  | some (t, n) => cond (Nat.beq t tag) (some n) none
  | none => none
def q_copy (pc : Nat) (L : List (Option Value)) (st : List Value) (M : qM) : Option qR := match st with
  | .int n :: .int dp :: .ref k1 :: .int sp :: .ref k0 :: r => (match q_len0 M k0 100, q_len0 M k1 100 with
    | some n0, some n1 => cond (decide (0 ≤ sp) && (decide (0 ≤ dp) && (decide (0 ≤ n) && (Nat.ble (sp.toNatClampNeg + n.toNatClampNeg) n0 && (Nat.ble (dp.toNatClampNeg + n.toNatClampNeg) n1 && Nat.ble (q_sum r) 8))))) (q_nx pc L r (q_put M k1 (va_cpy (q_row M k0) (q_row M k1) sp.toNatClampNeg dp.toNatClampNeg n.toNatClampNeg))) none
    | _, _ => none)
  | _ => none
def q_get (pc : Nat) (L : List (Option Value)) (M : qM) (e k : Nat) (r : List Value) : Option qR := match q_nth M.1 k with
  | some (ci, _) => cond (Nat.beq ci (e / 100)) (q_nx pc L (q_fv M k ci (e % 100) :: r) M) none
  | none => none
def q_set (pc : Nat) (L : List (Option Value)) (M : qM) (e k : Nat) (v : Value) (r : List Value) : Option qR := match q_nth M.1 k with
  | some (ci, _) => cond (Nat.beq ci (e / 100)) (match v with
    | .int x => (match q_fk ci (e % 100) with
      | 0 => q_nx pc L r (q_put M k (upd (q_row M k) (e % 100) x))
      | 3 => cond (q_bl x) (q_nx pc L r (q_put M k (upd (q_row M k) (e % 100) x))) none
      | _ => none)
    | .long x => (match q_fk ci (e % 100) with
      | 1 => q_nx pc L r (q_lput M k x)
      | _ => none)
    | .ref b => (match q_fk ci (e % 100) with
      | 2 => q_nx pc L r (q_rput M k (e % 100) b)
      | _ => none)
    | _ => none) none
  | none => none
def q_ald (xt : Nat → Nat × (Nat → Int32)) (pc : Nat) (L : List (Option Value)) (M : qM) (tag k : Nat) (i : Int32) (r : List Value) : Option qR := cond (Nat.blt k 1000)
  (match q_len0 M k tag with
    | some n => cond (q_in i n) (q_nx pc L (.int (q_row M k i.toNatClampNeg) :: r) M) none
    | none => none)
  (cond (Nat.beq tag 100 && (Nat.blt k 1003 && (q_in i (xt k).1 && Nat.ble (xt k).1 1000000))) (q_nx pc L (.int ((xt k).2 i.toNatClampNeg) :: r) M) none)
def q_ast (pc : Nat) (L : List (Option Value)) (M : qM) (tag k : Nat) (i x : Int32) (r : List Value) : Option qR := match q_len0 M k tag with
    | some n => cond (q_in i n) (q_nx pc L r (q_put M k (upd (q_row M k) i.toNatClampNeg x))) none
    | none => none
def q_tag (t : ArrayType) : Option Nat := match t with
  | .int => some 100
  | .char => some 101
  | .boolean => some 102
  | _ => none
def q_do (xt : Nat → Nat × (Nat → Int32)) (pc : Nat) (L : List (Option Value)) (st : List Value) (M : qM) (i : Instr) (n : Nat) : Option qR := match i with
  | .aload j => (match q_ld L j with
    | some (.ref k) => q_nx (pc + n) L (.ref k :: st) M
    | _ => none)
  | .iload j => (match q_ld L j with
    | some (.int x) => q_nx (pc + n) L (.int x :: st) M
    | _ => none)
  | .lload j => (match q_ld L j with
    | some (.long x) => q_nx (pc + n) L (.long x :: st) M
    | _ => none)
  | .astore j => (match st with
    | .ref k :: r => (match q_st1 L j (.ref k) with
      | some L' => q_nx (pc + n) L' r M
      | none => none)
    | _ => none)
  | .istore j => (match st with
    | .int x :: r => (match q_st1 L j (.int x) with
      | some L' => q_nx (pc + n) L' r M
      | none => none)
    | _ => none)
  | .fstore j => (match st with
    | .int x :: r => (match q_st1c L j (.int x) with
      | some L' => q_nx (pc + n) L' r M
      | none => none)
    | _ => none)
  | .lstore j => (match st with
    | .long x :: r => (match q_st2 L j (.long x) with
      | some L' => q_nx (pc + n) L' r M
      | none => none)
    | _ => none)
  | .iconst c => q_nx (pc + n) L (.int (Int32.ofInt c) :: st) M
  | .bipush c => q_nx (pc + n) L (.long (Int64.ofInt c) :: st) M
  | .iinc j c => (match q_ld L j with
    | some (.int x) => (match q_st1 L j (.int (x + Int32.ofInt c)) with
      | some L' => q_nx (pc + n) L' st M
      | none => none)
    | _ => none)
  | .iadd => (match st with
    | .int y :: .int x :: r => q_nx (pc + n) L (.int (x + y) :: r) M
    | _ => none)
  | .isub => (match st with
    | .int y :: .int x :: r => q_nx (pc + n) L (.int (x - y) :: r) M
    | _ => none)
  | .imul => (match st with
    | .int y :: .int x :: r => q_nx (pc + n) L (.int (x * y) :: r) M
    | _ => none)
  | .iand => (match st with
    | .int y :: .int x :: r => q_nx (pc + n) L (.int (x &&& y) :: r) M
    | _ => none)
  | .ior => (match st with
    | .int y :: .int x :: r => q_nx (pc + n) L (.int (x ||| y) :: r) M
    | _ => none)
  | .ixor => (match st with
    | .int y :: .int x :: r => q_nx (pc + n) L (.int (x ^^^ y) :: r) M
    | _ => none)
  | .idiv => (match st with
    | .int y :: .int x :: r => if y = 0 then none else q_nx (pc + n) L (.int (x / y) :: r) M
    | _ => none)
  | .irem => (match st with
    | .int y :: .int x :: r => if y = 0 then none else q_nx (pc + n) L (.int (x - x / y * y) :: r) M
    | _ => none)
  | .ishl => (match st with
    | .int y :: .int x :: r => q_nx (pc + n) L (.int (x <<< (y &&& 31)) :: r) M
    | _ => none)
  | .ishr => (match st with
    | .int y :: .int x :: r => q_nx (pc + n) L (.int (x >>> (y &&& 31)) :: r) M
    | _ => none)
  | .iushr => (match st with
    | .int y :: .int x :: r => q_nx (pc + n) L (.int (x.toUInt32 >>> (y.toUInt32 &&& Int32.toUInt32 31)).toInt32 :: r) M
    | _ => none)
  | .ladd => (match st with
    | .long y :: .long x :: r => q_nx (pc + n) L (.long (x + y) :: r) M
    | _ => none)
  | .lmul => (match st with
    | .long y :: .long x :: r => q_nx (pc + n) L (.long (x * y) :: r) M
    | _ => none)
  | .ldiv => (match st with
    | .long y :: .long x :: r => if y = 0 then none else q_nx (pc + n) L (.long (x / y) :: r) M
    | _ => none)
  | .lrem => (match st with
    | .long y :: .long x :: r => if y = 0 then none else q_nx (pc + n) L (.long (x - x / y * y) :: r) M
    | _ => none)
  | .lcmp => (match st with
    | .long y :: .long x :: r => q_nx (pc + n) L (.int (lg_cmp x y) :: r) M
    | _ => none)
  | .i2l => (match st with
    | .int x :: r => q_nx (pc + n) L (.long x.toInt64 :: r) M
    | _ => none)
  | .i2c => (match st with
    | .int x :: r => cond (q_chr x) (q_nx (pc + n) L (.int x :: r) M) none
    | _ => none)
  | .dup => (match st with
    | .ref k :: r => q_nx (pc + n) L (.ref k :: .ref k :: r) M
    | .int x :: r => q_nx (pc + n) L (.int x :: .int x :: r) M
    | _ => none)
  | .dup2 => (match st with
    | .int x :: .ref k :: r => q_nx (pc + n) L (.int x :: .ref k :: .int x :: .ref k :: r) M
    | _ => none)
  | .pop => (match st with
    | .int _ :: r => q_nx (pc + n) L r M
    | _ => none)
  | .goto t => q_nx t.toNat L st M
  | .ifCond c t => (match st with
    | .int x :: r => q_nx (q_cmp c x 0 t.toNat (pc + n)) L r M
    | _ => none)
  | .if_icmp c t => (match st with
    | .int y :: .int x :: r => q_nx (q_cmp c x y t.toNat (pc + n)) L r M
    | _ => none)
  | .tableswitch d lo _ offs => (match st with
    | .int x :: r => q_nx (q_sw x d lo offs.toList).toNat L r M
    | _ => none)
  | .getfield e => (match st with
    | .ref k :: r => q_get (pc + n) L M e k r
    | _ => none)
  | .putfield e => (match st with
    | v :: .ref k :: r => q_set (pc + n) L M e k v r
    | _ => none)
  | .getstatic e => q_nx (pc + n) L (.ref e :: st) M
  | .iaload => (match st with
    | .int i :: .ref k :: r => q_ald xt (pc + n) L M 100 k i r
    | _ => none)
  | .caload => (match st with
    | .int i :: .ref k :: r => q_ald xt (pc + n) L M 101 k i r
    | _ => none)
  | .baload => (match st with
    | .int i :: .ref k :: r => q_ald xt (pc + n) L M 102 k i r
    | _ => none)
  | .iastore => (match st with
    | .int x :: .int i :: .ref k :: r => q_ast (pc + n) L M 100 k i x r
    | _ => none)
  | .castore => (match st with
    | .int x :: .int i :: .ref k :: r => cond (q_chr x) (q_ast (pc + n) L M 101 k i x r) none
    | _ => none)
  | .bastore => (match st with
    | .int x :: .int i :: .ref k :: r => cond (q_bl x) (q_ast (pc + n) L M 102 k i x r) none
    | _ => none)
  | .arraylength => (match st with
    | .ref k :: r => cond (Nat.blt k 1000)
      (match q_nth M.1 k with
        | some (t, m) => cond (Nat.ble 100 t && Nat.ble t 102) (q_nx (pc + n) L (.int (Int32.ofNat m) :: r) M) none
        | none => none)
      (cond (Nat.blt k 1003 && Nat.ble (xt k).1 1000000) (q_nx (pc + n) L (.int (Int32.ofNat (xt k).1) :: r) M) none)
    | _ => none)
  | .new ci => cond (Nat.blt M.1.length 999 && Nat.blt ci 9) (q_nx (pc + n) L (.ref M.1.length :: st) (q_new M (ci, q_N ci))) none
  | .newarray t => (match st with
    | .int m :: r => (match q_tag t with
      | some tag => cond (Nat.blt M.1.length 999 && (decide (0 ≤ m) && Nat.ble m.toNatClampNeg 100000)) (q_nx (pc + n) L (.ref M.1.length :: r) (q_new M (tag, m.toNatClampNeg))) none
      | none => none)
    | _ => none)
  | .invokevirtual mj => q_callV (pc + n) L st M mj
  | .invokespecial mj => cond (Nat.beq mj 901) (match st with
    | .ref _ :: r => cond (Nat.ble (q_sum r) 8) (q_nx (pc + n) L r M) none
    | _ => none) (q_callV (pc + n) L st M mj)
  | .invokestatic mj => cond (Nat.beq mj 900) (q_copy (pc + n) L st M) (cond (Nat.beq mj 902) (match st with
    | .int y :: .int x :: r => cond (Nat.ble (q_sum r) 8) (q_nx (pc + n) L (.int (if y < x then y else x) :: r) M) none
    | _ => none) (cond (Nat.beq mj 903) (match st with
    | .int y :: .int x :: r => cond (Nat.ble (q_sum r) 8) (q_nx (pc + n) L (.int (if x < y then y else x) :: r) M) none
    | _ => none) (q_callS (pc + n) L st M mj)))
  | .ireturn => (match st with
    | [.int x] => some (.inr (.inl (some (.int x))))
    | _ => none)
  | .freturn => (match st with
    | [.int x] => cond (q_bl x) (some (.inr (.inl (some (.int x))))) none
    | _ => none)
  | .lreturn => (match st with
    | [.long x] => some (.inr (.inl (some (.long x))))
    | _ => none)
  | .areturn => (match st with
    | [.ref x] => some (.inr (.inl (some (.ref x))))
    | _ => none)
  | .return_ => (match st with
    | [] => some (.inr (.inl none))
    | _ => none)
  | _ => none
noncomputable def q_act (xt : Nat → Nat × (Nat → Int32)) (mi : Nat) (S : qS) : Option qR := match q_code mi S.1 with
  | some (i, n) => q_do xt S.1 S.2.1 S.2.2.1 S.2.2.2 i n
  | none => none
def q_ent (mi : Nat) (As : List Value) : List (Option Value) := As.map some ++ List.replicate (q_ml mi - As.length) none
noncomputable def q_ex (xt : Nat → Nat × (Nat → Int32)) : Nat → Nat → Nat → qS → Option (Option Value × qM)
  | 0, _, _, _ => none
  | n + 1, d, mi, S => match q_act xt mi S with
    | none => none
    | some (.inl S') => q_ex xt n d mi S'
    | some (.inr (.inl v)) => some (v, S.2.2.2)
    | some (.inr (.inr (mj, As, S'))) => match d with
      | 0 => none
      | d' + 1 => match q_ex xt n d' mj (0, q_ent mj As, [], S.2.2.2) with
        | none => none
        | some (v, M') => q_ex xt n (d' + 1) mi (S'.1, S'.2.1, v.toList ++ S'.2.2.1, M')
def q_Ev (xt : Nat → Nat × (Nat → Int32)) (d mi : Nat) (S : qS) (r : Option Value × qM) : Prop := ∃ n, q_ex xt n d mi S = some r
noncomputable def q_run (xt : Nat → Nat × (Nat → Int32)) (mi : Nat) : Nat → qS → Option qS
  | 0, S => some S
  | k + 1, S => match q_act xt mi S with
    | some (.inl S') => q_run xt mi k S'
    | _ => none
theorem q_ex_mono (xt : Nat → Nat × (Nat → Int32)) : ∀ (n d mi : Nat) (S : qS) (r : Option Value × qM), q_ex xt n d mi S = some r → q_ex xt (n + 1) d mi S = some r := by
  intro n
  induction n with
  | zero => intro d mi S r h; simp [q_ex] at h
  | succ n ih =>
    intro d mi S r h
    rw [q_ex] at h ⊢
    cases ha : q_act xt mi S with
    | none => rw [ha] at h; cases h
    | some a =>
      rw [ha] at h
      rcases a with S' | v | ⟨mj, As, S'⟩
      · exact ih d mi S' r h
      · exact h
      · cases d with
        | zero => cases h
        | succ d' =>
          dsimp only at h ⊢
          cases hc : q_ex xt n d' mj (0, q_ent mj As, [], S.2.2.2) with
          | none => rw [hc] at h; cases h
          | some w =>
            rw [hc] at h
            rw [ih d' mj _ w hc]
            exact ih (d' + 1) mi _ r h
theorem q_ex_le (xt : Nat → Nat × (Nat → Int32)) {n m d mi : Nat} {S : qS} {r : Option Value × qM} (h : q_ex xt n d mi S = some r) (hm : n ≤ m) : q_ex xt m d mi S = some r := by
  induction hm with
  | refl => exact h
  | step _ ih => exact q_ex_mono xt _ d mi S r ih
theorem q_ev_step {xt : Nat → Nat × (Nat → Int32)} {d mi : Nat} {S S' : qS} {r : Option Value × qM} (h : q_act xt mi S = some (.inl S')) (hE : q_Ev xt d mi S' r) : q_Ev xt d mi S r := by
  obtain ⟨n, hn⟩ := hE
  refine ⟨n + 1, ?_⟩
  rw [q_ex, h]
  exact hn
theorem q_ev_ret {xt : Nat → Nat × (Nat → Int32)} {d mi : Nat} {S : qS} {v : Option Value} {M : qM} (h : q_act xt mi S = some (.inr (.inl v))) (hM : S.2.2.2 = M) : q_Ev xt d mi S (v, M) := by
  refine ⟨1, ?_⟩
  rw [q_ex, h, ← hM]
theorem q_ev_call {xt : Nat → Nat × (Nat → Int32)} {d mi mj : Nat} {S S' : qS} {As : List Value} {v : Option Value} {M' : qM} {r : Option Value × qM} (h : q_act xt mi S = some (.inr (.inr (mj, As, S')))) (hd : 0 < d) (hc : q_Ev xt (d - 1) mj (0, q_ent mj As, [], S.2.2.2) (v, M')) (hE : q_Ev xt d mi (S'.1, S'.2.1, v.toList ++ S'.2.2.1, M') r) : q_Ev xt d mi S r := by
  obtain ⟨n1, h1⟩ := hc
  obtain ⟨n2, h2⟩ := hE
  obtain ⟨d', rfl⟩ : ∃ d', d = d' + 1 := ⟨d - 1, by omega⟩
  rw [Nat.add_sub_cancel] at h1
  refine ⟨n1 + n2 + 1, ?_⟩
  rw [q_ex, h]
  dsimp only
  rw [q_ex_le xt (m := n1 + n2) h1 (by omega)]
  exact q_ex_le xt h2 (by omega)
theorem q_ev_run {xt : Nat → Nat × (Nat → Int32)} {d mi : Nat} {r : Option Value × qM} : ∀ (k : Nat) {S S' : qS}, q_run xt mi k S = some S' → q_Ev xt d mi S' r → q_Ev xt d mi S r := by
  intro k
  induction k with
  | zero => intro S S' h hE; rw [q_run] at h; cases h; exact hE
  | succ k ih =>
    intro S S' h hE
    rw [q_run] at h
    cases ha : q_act xt mi S with
    | none => rw [ha] at h; cases h
    | some a =>
      rw [ha] at h
      rcases a with S1 | v | w
      · exact q_ev_step ha (ih h hE)
      · cases h
      · cases h
