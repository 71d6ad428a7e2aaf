/-! ===== a table's rows, held against the code and the tables ===== -/
/-- a call's words -/
def x_okC (M : xM) (i : Nat) (aux : List Nat) : Bool := match aux with
  | mi :: na :: kd :: ci :: mc :: ms :: wl :: wi :: ws :: wn :: wc :: _ =>
    (x_wd wc (.code (x_m mi).1 (x_m mi).2.1 (x_m mi).2.2.1 (x_m mi).2.2.2.1) && x_wd wn (.initialized (x_m mi).1.cls) && decide ((x_m mi).1.cls ≠ "java/lang/invoke/MethodHandle" ∧ (x_m mi).1.cls ≠ "java/lang/invoke/VarHandle") && decide ((x_m mi).2.2.2.2.cells = mc ∧ (x_m mi).2.2.2.2.slots = ms ∧ (x_m mi).2.2.2.2.frames + 1 ≤ M.2.2.2.2.frames ∧ 8 + ((x_m mi).2.2.1 + 11) + (x_m mi).2.2.2.2.locals ≤ M.2.2.2.2.locals)) &&
      (match kd with
      | 0 => x_wd wl (.methodLink M.1.cls i (x_m mi).1) && x_wd wi (.instanceMethod (x_m mi).1) && x_wd ws (.selects (x_m mi).1.cls (x_m mi).1 (x_m mi).1) && decide ((parseMethodDescriptor (x_m mi).1.desc).map (fun d => d.parameters.length) = some (na - 1) ∧ 0 < na) && (match Nat.beq ci 99 with
        | true => decide ((x_m mi).1.cls = "java/lang/String")
        | false => match vwCl[ci]? with
          | some q => decide (q.1 = (x_m mi).1.cls)
          | none => false)
      | 1 => x_wd wl (.methodLink M.1.cls i (x_m mi).1) && x_wd wi (.static (x_m mi).1) && decide ((parseMethodDescriptor (x_m mi).1.desc).map (fun d => d.parameters.length) = some na)
      | 2 => x_wd wl (.methodLink M.1.cls i (x_m mi).1) && x_wd wi (.instanceMethod (x_m mi).1) && decide ((parseMethodDescriptor (x_m mi).1.desc).map (fun d => d.parameters.length) = some (na - 1) ∧ 0 < na ∧ (x_m mi).1.name = "<init>" ∧ (x_m mi).2.2.2.1 = none)
      | 4 => decide (x_nest[wl]? = some (M.1.cls, i, (x_m mi).1, "SleepingRooms")) && x_wd wi (.static (x_m mi).1) && decide ((parseMethodDescriptor (x_m mi).1.desc).map (fun d => d.parameters.length) = some na)
      | 5 => decide (x_nest[wl]? = some (M.1.cls, i, (x_m mi).1, "SleepingRooms")) && x_wd wi (.instanceMethod (x_m mi).1) && decide ((parseMethodDescriptor (x_m mi).1.desc).map (fun d => d.parameters.length) = some (na - 1) ∧ 0 < na ∧ (x_m mi).1.name = "<init>" ∧ (x_m mi).2.2.2.1 = none)
      | _ => false)
  | _ => false
/-- which kinds an instruction may call by -/
def x_kd (aux : List Nat) (ks : List Nat) : Bool := match aux with
  | _ :: _ :: kd :: _ => ks.elem kd
  | _ => false
def x_okI (M : xM) (t : xT) : Bool := match t with
  | (pc, ins, len, aux, cst) => match ins with
    | .iconst n => decide (Int32.ofInt n = cst ∧ len = 1)
    | .bipush n => decide ((Int8.ofInt n).toInt32 = cst ∧ len = 2)
    | .sipush n => decide ((Int16.ofInt n).toInt32 = cst ∧ len = 3)
    | .ldc_w i => match aux with
      | 0 :: j :: _ => x_wd j (.constant M.1.cls i cst) && decide (len = 3)
      | _ => false
    | .iload_n _ => decide (len = 1)
    | .iload _ => decide (len = 2)
    | .aload_n _ => decide (len = 1)
    | .istore_n i => decide (len = 1 ∧ (i : Nat) < M.2.2.1)
    | .istore i => decide (len = 2 ∧ i < M.2.2.1)
    | .astore_n i => decide (len = 1 ∧ (i : Nat) < M.2.2.1)
    | .iinc _ n => decide (Int32.ofInt n = cst ∧ len = 3)
    | .iadd => decide (len = 1)
    | .isub => decide (len = 1)
    | .imul => decide (len = 1)
    | .iand => decide (len = 1)
    | .ior => decide (len = 1)
    | .ixor => decide (len = 1)
    | .ishl => decide (len = 1)
    | .ishr => decide (len = 1)
    | .iushr => decide (len = 1)
    | .dup => decide (len = 1)
    | .pop => decide (len = 1)
    | .goto off => decide ((pc : Int) + off = (aux.headD 0 : Nat) ∧ len = 3)
    | .ifCond _ off => decide ((pc : Int) + off = (aux.headD 0 : Nat) ∧ len = 3)
    | .if_icmp _ off => decide ((pc : Int) + off = (aux.headD 0 : Nat) ∧ len = 3)
    | .getfield i => match aux with
      | ci :: j :: wi :: _ => match vwCl[ci]? with
        | some q => decide (j < q.2.2 ∧ len = 3) && x_wd wi (.fieldLink M.1.cls i (q.2.1 j).1 (q.2.1 j).2.1 (q.2.1 j).2.2.1)
        | none => false
      | _ => false
    | .putfield i => match aux with
      | ci :: j :: wi :: ty :: _ => match vwCl[ci]? with
        | some q => decide (j < q.2.2 ∧ len = 3) && x_wd wi (.fieldLink M.1.cls i (q.2.1 j).1 (q.2.1 j).2.1 (q.2.1 j).2.2.1) && decide ((q.2.1 j).2.2.2 = false ∨ (q.2.1 j).2.2.2 = true ∧ M.1.name = "<init>" ∧ (q.2.1 j).1 = M.1.cls) &&
          (match ty with
          | 0 => decide (parseFieldDescriptor (q.2.1 j).2.2.1 = some .int)
          | 1 => decide (parseFieldDescriptor (q.2.1 j).2.2.1 = some .boolean)
          | 2 => match parseFieldDescriptor (q.2.1 j).2.2.1 with
            | some (.object _) => true
            | some (.array _) => true
            | _ => false
          | _ => false)
        | none => false
      | _ => false
    | .iaload => decide (len = 1)
    | .iastore => decide (len = 1)
    | .arraylength => decide (len = 1)
    | .invokevirtual i => decide (len = 3) && x_okC M i aux && x_kd aux [0]
    | .invokestatic i => decide (len = 3) && x_okC M i aux && x_kd aux [1, 4]
    | .invokespecial i => match aux with
      | 9999 :: a :: b :: c :: _ => decide (len = 3 ∧ 1 ≤ M.2.2.2.2.frames ∧ 20 ≤ M.2.2.2.2.locals) && x_wd a (.methodLink M.1.cls i objectInit) && x_wd b (.instanceMethod objectInit) && x_wd c (.code objectInit ⟨#[0xb1]⟩ 1 none)
      | _ => decide (len = 3) && x_okC M i aux && x_kd aux [2, 5]
    | .new i => match aux with
      | ci :: N :: a :: b :: c :: _ => match vwCl[ci]? with
        | some q => decide (len = 3 ∧ q.2.2 = N) && x_wd a (.classLink M.1.cls i q.1) && x_wd b (.instantiable q.1 q.2.2) && x_wd c (.initialized q.1)
        | none => false
      | _ => false
    | .newarray ty => match aux with
      | a :: _ => decide (len = 2 ∧ ty = .int) && x_wd a (.arrayClass .int)
      | _ => false
    | .ireturn => match aux with
      | [1] => decide (len = 1 ∧ M.2.2.2.1 = some .boolean)
      | _ => decide (len = 1 ∧ M.2.2.2.1 = some .int)
    | .areturn => match M.2.2.2.1 with
      | some (.object _) => decide (len = 1)
      | _ => false
    | .return_ => decide (len = 1 ∧ M.2.2.2.1 = none)
    | _ => false
def x_okT (M : xM) (t : xT) : Bool := decide (decode M.2.1 t.1 = .ok (t.2.1, t.2.2.1)) && x_okI M t
def x_VS (q : Nat × xSm) : Prop := ∀ (args : List Value) (w : xW) (r : Option Value × xW × Prop), q.2 args w = some r → r.2.2 → x_Con (x_m q.1) args w (fun a b => a = r.1 ∧ b = r.2.1)
theorem x_sum_in {sums : List (Nat × xSm)} {i : Nat} {f : xSm} (h : x_sum sums i = some f) : (i, f) ∈ sums := by
  induction sums with
  | nil => cases h
  | cons q qs ih =>
    rw [x_sum] at h
    split at h
    · next hb =>
      cases h
      have : q.1 = i := Nat.eq_of_beq_eq_true hb
      rw [← this]
      exact List.mem_cons_self
    · exact List.mem_cons_of_mem _ (ih h)
theorem x_look_in {tb : List xT} {pc : Nat} {t : xT} (h : x_look tb pc = some t) : t ∈ tb ∧ t.1 = pc := by
  induction tb with
  | nil => cases h
  | cons q qs ih =>
    rw [x_look] at h
    split at h
    · next hb =>
      cases h
      exact ⟨List.mem_cons_self, Nat.eq_of_beq_eq_true hb⟩
    · exact ⟨List.mem_cons_of_mem _ (ih h).1, (ih h).2⟩
theorem x_blind {g : xG} {w : xW} {av : List Value} : FrameBlind (va_Pc av (fun U => x_K g U ∧ x_H g w U.heap)) := fun _ _ _ _ h => ⟨h.1, h.2.1.same rfl rfl, h.2.2⟩
