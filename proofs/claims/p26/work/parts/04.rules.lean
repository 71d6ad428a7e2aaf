/-! ===== the condition of a step, and of a stretch ===== -/
def x_look : List xT → Nat → Option xT
  | [], _ => none
  | t :: ts, pc => match Nat.beq t.1 pc with
    | true => some t
    | false => x_look ts pc
def x_sum : List (Nat × xSm) → Nat → Option xSm
  | [], _ => none
  | q :: qs, i => match Nat.beq q.1 i with
    | true => some q.2
    | false => x_sum qs i
/-- a switch over v, v + 1 .. -/
def x_sw (k : Nat → Prop) (d : Nat) : List Nat → Int32 → Int32 → Prop
  | [], _, _ => k d
  | t :: ts, v, x => (x = v → k t) ∧ (¬ x = v → x_sw k d ts (v + 1) x)
/-- a branch -/
def x_br (c : Jvm.ClassFile.Cond) (x y : Int32) (kt kf : Prop) : Prop := match c with
  | .eq => (x = y → kt) ∧ (¬ x = y → kf)
  | .ne => (¬ x = y → kt) ∧ (x = y → kf)
  | .lt => (x < y → kt) ∧ (¬ x < y → kf)
  | .ge => (y ≤ x → kt) ∧ (¬ y ≤ x → kf)
  | .gt => (y < x → kt) ∧ (¬ y < x → kf)
  | .le => (x ≤ y → kt) ∧ (¬ x ≤ y → kf)
/-- a new object's fields, by its class's number -/
def x_new : List (List (Option (Option Nat))) := [[some none, some none, some none, some none, some none, none], [some none, none, none], [some none, some none, some none, none], [some none, some none, some none, some none, some none, some none, none], [some none, some none, some none, some none, none], [some none, some none, some none, none, none, none, none, none, none], [some none, none, none, none], [some none], [some none, some none, some none, none], [some none, some none, some none, some none, some none, some none, some none, some none, some none], [some none, some none, some none, some none, none, some none, none, some none, some none, some none, some none, some none, some none, none, some none, some none, some none, some none, none, none, none, none, none, none, some none, none, some none, some none, some none, some none, none, some none, some none, some none, none, none, some none, some none, none]]
/-- the field of a cell: its value -/
def x_rd (w : xW) (a ci k : Nat) : Option Value := match w.1[a]? with
  | some (.inr o) => match Nat.beq o.1 ci with
    | true => match o.2[k]? with
      | some f => some (x_fv (w.2 a k) f)
      | none => none
    | false => none
  | _ => none
/-- the length of an array -/
def x_al (w : xW) (a : Nat) : Option Nat := match w.1[a]? with
  | some (.inl n) => some n
  | _ => none
/-- a receiver of class ci (99: a text) -/
def x_rc (w : xW) (a ci : Nat) : Bool := match Nat.beq ci 99 with
  | true => Nat.ble 1001 a && Nat.ble a 1011
  | false => match w.1[a]? with
    | some (.inr o) => Nat.beq o.1 ci
    | _ => false
def x_rcv (w : xW) (args : List Value) (ci : Nat) : Bool := match args with
  | .ref a :: _ => x_rc w a ci
  | _ => false
/-- a call by its summary: aux is callee, number of arguments (with the receiver), kind, the receiver's class, cells, slots, words .. -/
def x_call (R : Room) (sums : List (Nat × xSm)) (aux : List Nat) (st : List Value) (w : xW) (cs ss : Nat) (k : List Value → xW → Nat → Nat → Prop) : Prop := match aux with
  | mi :: na :: kd :: ci :: mc :: ms :: _ => match x_sum sums mi with
    | some f => match Nat.ble ((List.map Value.category (st.drop na)).sum) 8 && (Nat.beq (st.take na).length na && (Nat.beq kd 1 || Nat.beq kd 4 || x_rcv w (st.take na).reverse ci)) && (Nat.ble (cs + mc) R.cells && Nat.ble (ss + ms) R.slots) with
      | true => match f (st.take na).reverse w with
        | some r => r.2.2 ∧ k (r.1.toList ++ st.drop na) r.2.1 mc ms
        | none => False
      | false => False
    | none => False
  | _ => False
/-- what a stretch that begins with this instruction asks, if the rest asks k -/
def x_st (R : Room) (sums : List (Nat × xSm)) (Ex : xEx) (t : xT) (c : xC) (k : xC → Prop) : Prop :=
  match t, c with
  | (_, ins, len, aux, cst), (pc, lv, st, w, cs, ss) => match ins with
    | .iconst _ => k (pc + len, lv, .int cst :: st, w, cs, ss)
    | .bipush _ => k (pc + len, lv, .int cst :: st, w, cs, ss)
    | .sipush _ => k (pc + len, lv, .int cst :: st, w, cs, ss)
    | .ldc_w _ => match aux with
      | 0 :: _ => k (pc + len, lv, .int cst :: st, w, cs, ss)
      | 1 :: r :: _ => k (pc + len, lv, .ref r :: st, w, cs, ss)
      | _ => False
    | .ldc _ => k (pc + len, lv, .ref (aux.headD 0) :: st, w, cs, ss)
    | .iload_n i => match lv[(i : Nat)]? with
      | some (some (.int x)) => k (pc + len, lv, .int x :: st, w, cs, ss)
      | _ => False
    | .iload i => match lv[i]? with
      | some (some (.int x)) => k (pc + len, lv, .int x :: st, w, cs, ss)
      | _ => False
    | .aload_n i => match lv[(i : Nat)]? with
      | some (some (.ref x)) => k (pc + len, lv, .ref x :: st, w, cs, ss)
      | _ => False
    | .istore_n i => match st with
      | .int x :: st => k (pc + len, lv.set i (some (.int x)), st, w, cs, ss)
      | _ => False
    | .istore i => match st with
      | .int x :: st => k (pc + len, lv.set i (some (.int x)), st, w, cs, ss)
      | _ => False
    | .astore_n i => match st with
      | .ref x :: st => k (pc + len, lv.set i (some (.ref x)), st, w, cs, ss)
      | _ => False
    | .iinc i _ => match lv[i]? with
      | some (some (.int x)) => k (pc + len, lv.set i (some (.int (x + cst))), st, w, cs, ss)
      | _ => False
    | .iadd => match st with
      | .int y :: .int x :: st => k (pc + len, lv, .int (x + y) :: st, w, cs, ss)
      | _ => False
    | .isub => match st with
      | .int y :: .int x :: st => k (pc + len, lv, .int (x - y) :: st, w, cs, ss)
      | _ => False
    | .imul => match st with
      | .int y :: .int x :: st => k (pc + len, lv, .int (x * y) :: st, w, cs, ss)
      | _ => False
    | .iand => match st with
      | .int y :: .int x :: st => k (pc + len, lv, .int (x &&& y) :: st, w, cs, ss)
      | _ => False
    | .ior => match st with
      | .int y :: .int x :: st => k (pc + len, lv, .int (x ||| y) :: st, w, cs, ss)
      | _ => False
    | .ixor => match st with
      | .int y :: .int x :: st => k (pc + len, lv, .int (x ^^^ y) :: st, w, cs, ss)
      | _ => False
    | .ishl => match st with
      | .int y :: .int x :: st => k (pc + len, lv, .int (x <<< (y &&& 31)) :: st, w, cs, ss)
      | _ => False
    | .ishr => match st with
      | .int y :: .int x :: st => k (pc + len, lv, .int (x >>> (y &&& 31)) :: st, w, cs, ss)
      | _ => False
    | .iushr => match st with
      | .int y :: .int x :: st => k (pc + len, lv, .int ((x.toUInt32 >>> (y.toUInt32 &&& Int32.toUInt32 31)).toInt32) :: st, w, cs, ss)
      | _ => False
    | .dup => match st with
      | .int x :: st => k (pc + len, lv, .int x :: .int x :: st, w, cs, ss)
      | .ref x :: st => k (pc + len, lv, .ref x :: .ref x :: st, w, cs, ss)
      | _ => False
    | .pop => match st with
      | .int _ :: st => k (pc + len, lv, st, w, cs, ss)
      | .ref _ :: st => k (pc + len, lv, st, w, cs, ss)
      | _ => False
    | .goto _ => k (aux.headD 0, lv, st, w, cs, ss)
    | .ifCond c _ => match st with
      | .int x :: st => x_br c x 0 (k (aux.headD 0, lv, st, w, cs, ss)) (k (pc + len, lv, st, w, cs, ss))
      | _ => False
    | .if_icmp c _ => match st with
      | .int y :: .int x :: st => x_br c x y (k (aux.headD 0, lv, st, w, cs, ss)) (k (pc + len, lv, st, w, cs, ss))
      | _ => False
    | .tableswitch _ _ _ _ => match st with
      | .int x :: st => x_sw (fun t => k (t, lv, st, w, cs, ss)) (aux.headD 0) aux.tail cst x
      | _ => False
    | .getfield _ => match st, aux with
      | .ref a :: st, ci :: j :: _ => match x_rd w a ci j with
        | some v => k (pc + len, lv, v :: st, w, cs, ss)
        | none => False
      | _, _ => False
    | .putfield _ => match st, aux with
      | .int x :: .ref a :: st, ci :: j :: _ :: ty :: _ => match x_rd w a ci j with
        | some (.int _) => match ty with
          | 0 => k (pc + len, lv, st, (w.1, x_u w.2 a j x), cs, ss)
          | 1 => (x = 0 ∨ x = 1) ∧ k (pc + len, lv, st, (w.1, x_u w.2 a j x), cs, ss)
          | _ => False
        | _ => False
      | .ref r :: .ref a :: st, ci :: j :: _ :: 2 :: _ => match w.1[a]? with
        | some (.inr o) => match Nat.beq o.1 ci, o.2[j]? with
          | true, some (some _) => k (pc + len, lv, st, (w.1.set a (.inr (o.1, o.2.set j (some (some r)))), w.2), cs, ss)
          | _, _ => False
        | _ => False
      | _, _ => False
    | .iaload => match st with
      | .int i :: .ref a :: st => match Nat.beq a 1000 with
        | true => vp_in i (w.2 1001 0).toNatClampNeg ∧ k (pc + len, lv, .int (w.2 1000 i.toNatClampNeg) :: st, w, cs, ss)
        | false => match x_al w a with
          | some n => vp_in i n ∧ k (pc + len, lv, .int (w.2 a i.toNatClampNeg) :: st, w, cs, ss)
          | none => False
      | _ => False
    | .iastore => match st with
      | .int x :: .int i :: .ref a :: st => match x_al w a with
        | some n => vp_in i n ∧ k (pc + len, lv, st, (w.1, x_u w.2 a i.toNatClampNeg x), cs, ss)
        | none => False
      | _ => False
    | .arraylength => match st with
      | .ref a :: st => match Nat.beq a 1000 with
        | true => k (pc + len, lv, .int (w.2 1001 0) :: st, w, cs, ss)
        | false => match x_al w a with
          | some n => k (pc + len, lv, .int (Int32.ofNat n) :: st, w, cs, ss)
          | none => False
      | _ => False
    | .invokevirtual _ => x_call R sums aux st w cs ss (fun st w mc ms => k (pc + len, lv, st, w, cs + mc, ss + ms))
    | .invokestatic _ => x_call R sums aux st w cs ss (fun st w mc ms => k (pc + len, lv, st, w, cs + mc, ss + ms))
    | .invokespecial _ => match aux with
      | 9999 :: _ => match st with
        | .ref _ :: st => match Nat.ble ((List.map Value.category st).sum) 8 with
          | true => k (pc + len, lv, st, w, cs, ss)
          | false => False
        | _ => False
      | _ => x_call R sums aux st w cs ss (fun st w mc ms => k (pc + len, lv, st, w, cs + mc, ss + ms))
    | .new _ => match aux with
      | ci :: N :: _ => (cs + 1 ≤ R.cells ∧ ss + N ≤ R.slots ∧ w.1.length + 1 < 1000) ∧ k (pc + len, lv, .ref w.1.length :: st, (w.1 ++ [.inr (ci, x_new.getD ci [])], x_z w.2 w.1.length), cs + 1, ss + N)
      | _ => False
    | .newarray _ => match st with
      | .int n :: st => (¬ n < 0 ∧ n.toNatClampNeg ≤ 1000 ∧ cs + 1 ≤ R.cells ∧ ss + n.toNatClampNeg ≤ R.slots ∧ w.1.length + 1 < 1000) ∧ k (pc + len, lv, .ref w.1.length :: st, (w.1 ++ [.inl n.toNatClampNeg], x_z w.2 w.1.length), cs + 1, ss + n.toNatClampNeg)
      | _ => False
    | .ireturn => match st with
      | [.int x] => match aux with
        | [1] => (x = 0 ∨ x = 1) ∧ Ex (some (.int x)) w cs ss
        | _ => Ex (some (.int x)) w cs ss
      | _ => False
    | .areturn => match st with
      | [.ref a] => Ex (some (.ref a)) w cs ss
      | _ => False
    | .return_ => match st with
      | [] => Ex none w cs ss
      | _ => False
    | _ => False
/-- what a stretch of at most n steps asks, up to the places 'cuts', where it asks L -/
def x_wp (R : Room) (sums : List (Nat × xSm)) (tb : List xT) (cuts : List Nat) (L : xC → Prop) (Ex : xEx) : Nat → xC → Prop
  | 0, c => L c
  | n + 1, c => match x_look tb c.1 with
    | some t => x_st R sums Ex t c (fun c' => match cuts.elem c'.1 with
      | true => L c'
      | false => x_wp R sums tb cuts L Ex n c')
    | none => False
