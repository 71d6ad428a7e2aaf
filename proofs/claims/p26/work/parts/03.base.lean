/-! ===== the pure machine: worlds, tables, the condition of a stretch ===== -/
/-- a cell's shape: an array of n ints, or an object: its class's number and its fields (none: an int; some none: null; some (some k): cell k) -/
abbrev xS : Type := Nat ⊕ (Nat × List (Option (Option Nat)))
/-- a world: the cells' shapes, and the ints of each cell; the script's ints stand at 1000, its length at 1001 -/
abbrev xW : Type := List xS × (Nat → Nat → Int32)
/-- place in the code, locals, operand stack, world, cells and slots made so far -/
abbrev xC : Type := Nat × List (Option Value) × List Value × xW × Nat × Nat
/-- a row of a table: place, instruction, its length, what it links, its constant -/
abbrev xT : Type := Nat × Instr × Nat × List Nat × Int32
/-- what a call does: answer, world, and what it asks -/
abbrev xSm : Type := List Value → xW → Option (Option Value × xW × Prop)
abbrev xEx : Type := Option Value → xW → Nat → Nat → Prop
/-- what stays through a run: where the first cell lies, classes, the class of int arrays, the texts and their bytes, the script -/
abbrev xG : Type := Nat × va_G × ClassId × (Nat → Nat) × (Nat → Nat) × Nat × Nat × (Nat → Int32)
def x_h (g : xG) : Nat := g.1
def x_D (g : xG) : va_G := g.2.1
def x_cI (g : xG) : ClassId := g.2.2.1
def x_sk (g : xG) : Nat → Nat := g.2.2.2.1
def x_sv (g : xG) : Nat → Nat := g.2.2.2.2.1
def x_b (g : xG) : Nat := g.2.2.2.2.2.1
def x_L (g : xG) : Nat := g.2.2.2.2.2.2.1
def x_xs (g : xG) : Nat → Int32 := g.2.2.2.2.2.2.2
def x_A (g : xG) : Nat → Prop := fun q => x_h g ≤ q
def x_ad (g : xG) (k : Nat) : Nat := if k < 1000 then x_h g + k else if k = 1000 then x_b g else x_sk g (k - 1001)
def x_v (g : xG) (v : Value) : Value := match v with
  | .ref k => .ref (x_ad g k)
  | v => v
def x_fv (x : Int32) (f : Option (Option Nat)) : Value := match f with
  | none => .int x
  | some none => .null
  | some (some r) => .ref r
def x_c (g : xG) (σ : Nat → Nat → Int32) (k : Nat) (sh : xS) : va_E := match sh with
  | .inl n => .inl (x_cI g, n, .inl (σ k))
  | .inr o => .inr (o.1, o.2.mapIdx (fun j f => x_v g (x_fv (σ k j) f)))
def x_cs (g : xG) (w : xW) : va_W := w.1.mapIdx (fun k sh => (x_h g + k, x_c g w.2 k sh))
def x_H (g : xG) (w : xW) (H : Heap) : Prop := H.size = x_h g + w.1.length ∧ w.1.length < 1000 ∧ va_P (x_D g) vwCl (x_cs g w) H ∧ (∀ j, j < x_L g → w.2 1000 j = x_xs g j) ∧ w.2 1001 0 = Int32.ofNat (x_L g)
/-- one int of one cell anew -/
def x_u (σ : Nat → Nat → Int32) (a k : Nat) (x : Int32) : Nat → Nat → Int32 := fun i j => if i = a then (if j = k then x else σ i j) else σ i j
/-- a new cell's ints are 0 -/
def x_z (σ : Nat → Nat → Int32) (a : Nat) : Nat → Nat → Int32 := fun i j => if i = a then 0 else σ i j
theorem x_ad_lt {g : xG} {k : Nat} (h : k < 1000) : x_ad g k = x_h g + k := by rw [x_ad, if_pos h]
theorem x_ad_b {g : xG} : x_ad g 1000 = x_b g := by simp [x_ad]
theorem x_ad_s {g : xG} (i : Nat) : x_ad g (1001 + i) = x_sk g i := by
  rw [x_ad, if_neg (by omega), if_neg (by omega), Nat.add_sub_cancel_left]
theorem x_cs_at {g : xG} {w : xW} {k : Nat} {sh : xS} (h : w.1[k]? = some sh) : (x_cs g w)[k]? = some (x_h g + k, x_c g w.2 k sh) := by
  simp [x_cs, List.getElem?_mapIdx, h]
theorem x_cs_of {g : xG} {w : xW} {k : Nat} {q : Nat × va_E} (h : (x_cs g w)[k]? = some q) : ∃ sh, w.1[k]? = some sh ∧ q = (x_h g + k, x_c g w.2 k sh) := by
  simp only [x_cs, List.getElem?_mapIdx, Option.map_eq_some_iff] at h
  obtain ⟨sh, h1, h2⟩ := h
  exact ⟨sh, h1, h2.symm⟩
theorem x_lt {w : xW} {k : Nat} {sh : xS} (h : w.1[k]? = some sh) : k < w.1.length := (List.getElem?_eq_some_iff.mp h).1
theorem x_D_of {g : xG} {w : xW} : va_D (x_A g) (x_cs g w) := by
  refine ⟨fun i j p q hi hj e => ?_, fun k q hk => ?_⟩
  · obtain ⟨_, _, rfl⟩ := x_cs_of hi
    obtain ⟨_, _, rfl⟩ := x_cs_of hj
    have e : x_h g + i = x_h g + j := e
    omega
  · obtain ⟨_, _, rfl⟩ := x_cs_of hk
    exact Nat.le_add_right _ _
theorem x_cat {g : xG} (v : Value) : (x_v g v).category = v.category := by cases v <;> rfl
theorem x_cats {g : xG} (st : List Value) : ((st.map (x_v g)).map fun v => v.category).sum = (st.map Value.category).sum := by
  induction st with
  | nil => rfl
  | cons v st ih => simp only [List.map_cons, List.sum_cons, x_cat, ih]
/-- the world behind an int's store in an array -/
theorem x_set_a {g : xG} {w : xW} {a n k : Nat} {x : Int32} (h : w.1[a]? = some (.inl n)) : (x_cs g w).set a (x_h g + a, .inl (x_cI g, n, .inl (upd (w.2 a) k x))) = x_cs g (w.1, x_u w.2 a k x) := by
  apply List.ext_getElem?
  intro i
  rw [List.getElem?_set]
  have hl : a < (x_cs g w).length := by simp only [x_cs, List.length_mapIdx]; exact x_lt h
  by_cases hi : a = i
  · subst hi
    rw [if_pos rfl, if_pos hl]
    rw [x_cs_at (w := (w.1, x_u w.2 a k x)) h]
    simp only [x_c]
    congr 6
    funext j
    simp [x_u, upd]
  · rw [if_neg hi]
    simp only [x_cs, List.getElem?_mapIdx]
    congr 1
    funext sh
    have e : x_u w.2 a k x i = w.2 i := by funext j; simp [x_u, Ne.symm hi]
    cases sh <;> simp only [x_c, e]
/-- .. in a field -/
theorem x_set_f {g : xG} {w : xW} {a ci k : Nat} {fs : List (Option (Option Nat))} {x : Int32} (h : w.1[a]? = some (.inr (ci, fs))) (hk : fs[k]? = some none) : (x_cs g w).set a (x_h g + a, .inr (ci, (fs.mapIdx (fun j f => x_v g (x_fv (w.2 a j) f))).set k (.int x))) = x_cs g (w.1, x_u w.2 a k x) := by
  apply List.ext_getElem?
  intro i
  rw [List.getElem?_set]
  have hl : a < (x_cs g w).length := by simp only [x_cs, List.length_mapIdx]; exact x_lt h
  by_cases hi : a = i
  · subst hi
    rw [if_pos rfl, if_pos hl]
    rw [x_cs_at (w := (w.1, x_u w.2 a k x)) h]
    simp only [x_c]
    congr 4
    apply List.ext_getElem?
    intro j
    rw [List.getElem?_set]
    by_cases hj : k = j
    · subst hj
      have hkl : k < fs.length := (List.getElem?_eq_some_iff.mp hk).1
      rw [if_pos rfl, if_pos (by simpa using hkl), List.getElem?_mapIdx, hk]
      simp [x_fv, x_u, x_v]
    · rw [if_neg hj]
      simp only [List.getElem?_mapIdx]
      congr 1
      funext f
      simp [x_u, Ne.symm hj]
  · rw [if_neg hi]
    simp only [x_cs, List.getElem?_mapIdx]
    congr 1
    funext sh
    have e : x_u w.2 a k x i = w.2 i := by funext j; simp [x_u, Ne.symm hi]
    cases sh <;> simp only [x_c, e]
/-- .. of a reference in a field -/
theorem x_set_r {g : xG} {w : xW} {a ci k r : Nat} {fs : List (Option (Option Nat))} {y : Option Nat} (h : w.1[a]? = some (.inr (ci, fs))) (hk : fs[k]? = some (some y)) : (x_cs g w).set a (x_h g + a, .inr (ci, (fs.mapIdx (fun j f => x_v g (x_fv (w.2 a j) f))).set k (x_v g (.ref r)))) = x_cs g (w.1.set a (.inr (ci, fs.set k (some (some r)))), w.2) := by
  apply List.ext_getElem?
  intro i
  rw [List.getElem?_set]
  have hla := x_lt h
  have hl : a < (x_cs g w).length := by simp only [x_cs, List.length_mapIdx]; exact hla
  by_cases hi : a = i
  · subst hi
    rw [if_pos rfl, if_pos hl]
    rw [x_cs_at (w := (w.1.set a (.inr (ci, fs.set k (some (some r)))), w.2)) (sh := .inr (ci, fs.set k (some (some r)))) (by simp [hla])]
    simp only [x_c]
    congr 4
    apply List.ext_getElem?
    intro j
    rw [List.getElem?_set]
    have hkl : k < fs.length := (List.getElem?_eq_some_iff.mp hk).1
    by_cases hj : k = j
    · subst hj
      simp [hkl, List.getElem?_mapIdx, x_fv]
    · rw [if_neg hj]
      simp only [List.getElem?_mapIdx, List.getElem?_set, if_neg hj]
  · rw [if_neg hi]
    simp only [x_cs, List.getElem?_mapIdx, List.getElem?_set, if_neg hi]
/-! ===== methods ===== -/
/-- a method: its name, code, number of locals, answer's type, room -/
abbrev xM : Type := MethodName × ByteArray × Nat × Option FieldType × Room
/-- the words that all methods have: those of the tables that any state of a run keeps -/
def x_tb : List Cond := lw_tbl.filter goodWord
def x_ws (M : xM) : List Cond := .code M.1 M.2.1 M.2.2.1 M.2.2.2.1 :: x_tb
theorem x_tb_of {i : Nat} {w : Cond} (h : (decide (lw_tbl[i]? = some w) && goodWord w) = true) : w ∈ x_tb := by
  simp only [Bool.and_eq_true, decide_eq_true_eq] at h
  exact List.mem_filter.mpr ⟨List.mem_of_getElem? h.1, h.2⟩
def x_wd (i : Nat) (w : Cond) : Bool := decide (lw_tbl[i]? = some w) && goodWord w
theorem x_wd_in {M : xM} {i : Nat} {w : Cond} (h : x_wd i w = true) : w ∈ x_ws M := List.mem_cons_of_mem _ (x_tb_of h)
theorem x_good {M M' : xM} (h : Cond.code M'.1 M'.2.1 M'.2.2.1 M'.2.2.2.1 ∈ x_tb) : GoodIn (x_ws M) (x_ws M') := by
  intro w hw
  have hm : w ∈ x_tb := by
    rcases List.mem_cons.mp hw with rfl | hw
    · exact h
    · exact hw
  exact ⟨List.mem_cons_of_mem _ hm, good_of_word (List.mem_filter.mp hm).2⟩
/-- calls of private methods between the classes -/
def x_nest : List (String × Nat × MethodName × String) := [("SleepingRooms", 9, ⟨"SleepingRooms$Chip", "<init>", "()V"⟩, "SleepingRooms"), ("SleepingRooms", 27, ⟨"SleepingRooms$Course", "<init>", "()V"⟩, "SleepingRooms"), ("SleepingRooms", 34, ⟨"SleepingRooms$Script", "<init>", "()V"⟩, "SleepingRooms"), ("SleepingRooms$Planner", 11, ⟨"SleepingRooms$Script", "<init>", "()V"⟩, "SleepingRooms"), ("SleepingRooms", 68, ⟨"SleepingRooms$Reader", "<init>", "()V"⟩, "SleepingRooms"), ("SleepingRooms$Chip", 43, ⟨"SleepingRooms", "bit", "(I)I"⟩, "SleepingRooms"), ("SleepingRooms$Chip", 50, ⟨"SleepingRooms", "contains", "(II)Z"⟩, "SleepingRooms"), ("SleepingRooms$Nets", 75, ⟨"SleepingRooms", "bit", "(I)I"⟩, "SleepingRooms"), ("SleepingRooms$Course", 46, ⟨"SleepingRooms", "bit", "(I)I"⟩, "SleepingRooms"), ("SleepingRooms$Course", 49, ⟨"SleepingRooms", "contains", "(II)Z"⟩, "SleepingRooms"), ("SleepingRooms$Play", 52, ⟨"SleepingRooms", "bit", "(I)I"⟩, "SleepingRooms"), ("SleepingRooms$Play", 108, ⟨"SleepingRooms", "contains", "(II)Z"⟩, "SleepingRooms"), ("SleepingRooms$Planner", 85, ⟨"SleepingRooms", "contains", "(II)Z"⟩, "SleepingRooms")]
def x_strs : List (String × Nat × String) := [("SleepingRooms$Reader", 42, "room R S"), ("SleepingRooms$Reader", 44, "near R R V"), ("SleepingRooms$Reader", 46, "net R R"), ("SleepingRooms$Reader", 48, "scene L L L L"), ("SleepingRooms$Reader", 50, "guard N V S"), ("SleepingRooms$Reader", 52, "lift N W"), ("SleepingRooms$Reader", 54, "keep R K S"), ("SleepingRooms", 333, "up"), ("SleepingRooms", 335, "down"), ("SleepingRooms", 337, "both"), ("SleepingRooms", 339, "none")]
def x_len : List Nat := [8, 10, 7, 13, 11, 8, 10, 2, 4, 4, 4]
def x_byt : List (List Int32) := [[114, 111, 111, 109, 32, 82, 32, 83], [110, 101, 97, 114, 32, 82, 32, 82, 32, 86], [110, 101, 116, 32, 82, 32, 82], [115, 99, 101, 110, 101, 32, 76, 32, 76, 32, 76, 32, 76], [103, 117, 97, 114, 100, 32, 78, 32, 86, 32, 83], [108, 105, 102, 116, 32, 78, 32, 87], [107, 101, 101, 112, 32, 82, 32, 75, 32, 83], [117, 112], [100, 111, 119, 110], [98, 111, 116, 104], [110, 111, 110, 101]]
/-- what a state of the run keeps: classes, links, texts, script -/
def x_K (g : xG) (U : State) : Prop :=
  va_K (x_D g) vwCl [(x_cI g, .int)] U ∧ (∀ q ∈ x_nest, va_Nw (.methodLinkNest q.1 q.2.1 q.2.2.1 q.2.2.2) U) ∧ (vk_S 11 x_len x_byt (x_sk g) (x_sv g) (x_A g) U U.heap ∧ (∀ i q, x_strs[i]? = some q → vk_R q.1 q.2.1 q.2.2 (x_sk g i) U) ∧ va_Z "java/lang/String" "COMPACT_STRINGS" "Z" (.int 1) (x_A g) U U.heap ∧ va_Zq "jdk/internal/util/Preconditions" "SIOOBE_FORMATTER" "Ljava/util/function/BiFunction;" (x_A g) U U.heap) ∧ va_X (x_b g) (x_L g) (x_xs g) U U.heap ∧ x_b g < x_h g ∧ x_h g ≤ U.heap.size ∧ x_L g ≤ 2560
theorem x_K.to {g : xG} {s U : State} {H : Heap} {locs : List Loc} (h : x_K g s) (hW : s.WarmedH U.vm) (hU : U.heap = H) (hS : va_S (x_A g) s.heap H locs) : x_K g U := by
  obtain ⟨h1, h2, ⟨h3, h4, h5, h6⟩, h7, h8, h9, h10⟩ := h
  subst hU
  have hk : ∀ a : Nat, a < s.heap.size → ¬ x_A g a → U.heap[a]? = s.heap[a]? := hS.2.1
  refine ⟨va_K.moved hW.alike h1, fun q hq => va_Nw.warmM hW (h2 q hq), ⟨(h3.kept hk).moved hW.alike, fun i q hq => (h4 i q hq).warm hW, ?_, ?_⟩, ?_, h8, Nat.le_trans h9 hS.1, h10⟩
  · exact va_Z.moved hW.alike (h5.kept hk)
  · exact va_Zq.moved hW.alike (h6.kept hk)
  · exact (h7.kept (hk _ (Nat.lt_of_lt_of_le h8 h9) (Nat.not_le.mpr h8))).moved hW.alike
theorem x_K.same {g : xG} {s U : State} (h : x_K g s) (hv : U.vm = s.vm) (hh : U.heap = s.heap) : x_K g U := by
  obtain ⟨h1, h2, ⟨h3, h4, h5, h6⟩, h7, h8, h9, h10⟩ := h
  have ha : s.vm.Alike U.vm := by rw [hv]; exact Vm.Alike.refl _
  refine ⟨va_K.moved ha h1, fun q hq => va_Nw.same rfl hv.symm (h2 q hq), ⟨by rw [hh]; exact h3.moved ha, fun i q hq => (h4 i q hq).same hv, ?_, ?_⟩, ?_, h8, by rw [hh]; exact h9, h10⟩
  · rw [hh]; exact va_Z.moved ha h5
  · rw [hh]; exact va_Zq.moved ha h6
  · rw [hh]; exact h7.moved ha
/-- a method's contract: from these arguments and this world it comes to an answer and a world with Q -/
def x_Q (g : xG) (Q : Option Value → xW → Prop) : Array Value → State → Outcome → State → Prop := fun _ st oc t => (∃ (r : Option Value) (w : xW), oc = .returned (r.map (x_v g)) ∧ Q r w ∧ x_H g w t.heap) ∧ va_F (x_A g) st t
def x_Con (M : xM) (args : List Value) (w : xW) (Q : Option Value → xW → Prop) : Prop :=
  ∀ (g : xG) (l : Launch), Met l M.1 (x_ws M) M.2.2.2.2 (va_Pc (args.map (x_v g)) (fun U => x_K g U ∧ x_H g w U.heap)) (x_Q g Q) M.2.2.2.2.cells M.2.2.2.2.slots (x_A g)
/-- the locals -/
def x_lv (g : xG) (ls : Array Slot) (nL : Nat) (lv : List (Option Value)) : Prop := lv.length = nL ∧ ls.size = nL ∧ lv_wf ls ∧ ∀ (i : Nat) (v : Value), lv[i]? = some (some v) → v.category = 1 ∧ ls[i]? = some (.val (x_v g v))
/-- the machine's side of a method that runs -/
def x_X (M : xM) (g : xG) (p : Program) (s : State) (m : MethodId) (args : Array Value) (meth : Method) (c : Code) : Prop :=
  p.tables.exec = Jvm.exec ∧ c.code = M.2.1 ∧ meth.sig.returnType = M.2.2.2.1 ∧ meth.locks = false ∧ c.maxLocals = M.2.2.1 ∧ s.vm.findClass M.1.cls = some m.cls ∧ (∀ w ∈ x_ws M, w.before args s = true) ∧ meth.name = M.1.name ∧ x_K g s
/-- which answers end the method, by which instruction -/
def x_rt (M : xM) (pc : Nat) (v : Option Value) : Prop :=
  (v = none ∧ decode M.2.1 pc = .ok (.return_, 1) ∧ M.2.2.2.1 = none) ∨ (∃ x : Int32, v = some (.int x) ∧ decode M.2.1 pc = .ok (.ireturn, 1) ∧ (M.2.2.2.1 = some .int ∨ M.2.2.2.1 = some .boolean ∧ (x = 0 ∨ x = 1))) ∨ ∃ a : Nat, v = some (.ref a) ∧ decode M.2.1 pc = .ok (.areturn, 1) ∧ ∃ n, M.2.2.2.1 = some (.object n)
def x_end (M : xM) (g : xG) (Ex : xEx) (p : Program) (l : Launch) (e : Env) (s : State) (m : MethodId) (args : Array Value) (below : List Frame) (meth : Method) (c : Code) (Qf : State → Prop) : Prop :=
  ∀ (pc : Nat) (H : Heap) (locs : List Loc) (ls : Array Slot) (v : Option Value) (w : xW) (cs ss : Nat), x_rt M pc v → Ex v w cs ss → x_H g w H → va_S (x_A g) s.heap H locs → W p l e M.2.2.2.2 s m args below meth c H locs cs ss Qf (F0 m pc ls ((v.map (x_v g)).toList))
/-- THE JUDGEMENT: from this place the method ends, with Ex -/
def x_G (M : xM) (Ex : xEx) (c : xC) : Prop :=
  ∀ (g : xG) (p : Program) (l : Launch) (e : Env) (s : State) (m : MethodId) (args : Array Value) (below : List Frame) (meth : Method) (co : Code) (H : Heap) (locs : List Loc) (ls : Array Slot) (Qf : State → Prop),
    x_X M g p s m args meth co → x_end M g Ex p l e s m args below meth co Qf → x_H g c.2.2.2.1 H → va_S (x_A g) s.heap H locs → x_lv g ls M.2.2.1 c.2.1 →
    W p l e M.2.2.2.2 s m args below meth co H locs c.2.2.2.2.1 c.2.2.2.2.2 Qf (F0 m c.1 ls (c.2.2.1.map (x_v g)))
