/-! ===== rules that write: fields, arrays, new cells ===== -/
theorem x_ins {ws : List Cond} (ps : List Nat) (h : (Nat.beq ws.length ps.length && (ws.zip ps).all (fun q => x_wd q.2 q.1)) = true) : ∀ w ∈ ws, w ∈ x_tb := by
  simp only [Bool.and_eq_true, List.all_eq_true] at h
  have hl : ws.length = ps.length := Nat.eq_of_beq_eq_true h.1
  intro w hw
  obtain ⟨i, hi, rfl⟩ := List.getElem_of_mem hw
  have hi2 : i < ps.length := by omega
  have hm : (ws[i], ps[i]) ∈ ws.zip ps := by
    rw [List.mem_iff_getElem]
    exact ⟨i, by simp; omega, by simp⟩
  exact x_tb_of (h.2 _ hm)
/-- a class's words, types and names -/
def x_Cl (ci : Nat) (q : vw_C) : Prop := (∀ w ∈ u_ws q.1 q.2.1 q.2.2, w ∈ x_tb) ∧ ∃ ty0 : Nat → FieldType, (∀ k, k < q.2.2 → parseFieldDescriptor (q.2.1 k).2.2.1 = some (ty0 k)) ∧ (∀ a, a < q.2.2 → ∀ b, b < q.2.2 → a ≠ b → (q.2.1 a).2.1 ≠ (q.2.1 b).2.1) ∧ (∀ j, j < q.2.2 → defaultValue (ty0 j) = vp_V ((x_new.getD ci []).map (fun f => x_fv 0 f)) j)
theorem x_in0 : ∀ w ∈ wsX00, w ∈ x_tb := x_ins [122, 124, 126, 128, 130, 132] (by decide +kernel)
theorem x_df0 : ∀ j, j < 6 → defaultValue (tyX0 j) = vp_V ((x_new.getD 0 []).map (fun f => x_fv 0 f)) j := by decide +kernel
theorem x_in1 : ∀ w ∈ wsX10, w ∈ x_tb := x_ins [314, 316, 318] (by decide +kernel)
theorem x_df1 : ∀ j, j < 3 → defaultValue (tyX1 j) = vp_V ((x_new.getD 1 []).map (fun f => x_fv 0 f)) j := by decide +kernel
theorem x_in2 : ∀ w ∈ wsX20, w ∈ x_tb := x_ins [193, 195, 197, 199] (by decide +kernel)
theorem x_df2 : ∀ j, j < 4 → defaultValue (tyX2 j) = vp_V ((x_new.getD 2 []).map (fun f => x_fv 0 f)) j := by decide +kernel
theorem x_in3 : ∀ w ∈ wsX30, w ∈ x_tb := x_ins [163, 165, 167, 169, 171, 173, 175] (by decide +kernel)
theorem x_df3 : ∀ j, j < 7 → defaultValue (tyX3 j) = vp_V ((x_new.getD 3 []).map (fun f => x_fv 0 f)) j := by decide +kernel
theorem x_in4 : ∀ w ∈ wsX40, w ∈ x_tb := x_ins [290, 292, 294, 296, 298] (by decide +kernel)
theorem x_df4 : ∀ j, j < 5 → defaultValue (tyX4 j) = vp_V ((x_new.getD 4 []).map (fun f => x_fv 0 f)) j := by decide +kernel
theorem x_in5 : ∀ w ∈ wsX50, w ∈ x_tb := x_ins [257, 259, 261, 263, 265, 267, 269, 271, 273] (by decide +kernel)
theorem x_df5 : ∀ j, j < 9 → defaultValue (tyX5 j) = vp_V ((x_new.getD 5 []).map (fun f => x_fv 0 f)) j := by decide +kernel
theorem x_in6 : ∀ w ∈ wsX60, w ∈ x_tb := x_ins [335, 337, 339, 341] (by decide +kernel)
theorem x_df6 : ∀ j, j < 4 → defaultValue (tyX6 j) = vp_V ((x_new.getD 6 []).map (fun f => x_fv 0 f)) j := by decide +kernel
theorem x_in7 : ∀ w ∈ wsX70, w ∈ x_tb := x_ins [100] (by decide +kernel)
theorem x_df7 : ∀ j, j < 1 → defaultValue (tyX7 j) = vp_V ((x_new.getD 7 []).map (fun f => x_fv 0 f)) j := by decide +kernel
theorem x_in8 : ∀ w ∈ wsX80, w ∈ x_tb := x_ins [222, 224, 226, 228] (by decide +kernel)
theorem x_df8 : ∀ j, j < 4 → defaultValue (tyX8 j) = vp_V ((x_new.getD 8 []).map (fun f => x_fv 0 f)) j := by decide +kernel
theorem x_in9 : ∀ w ∈ wsX90, w ∈ x_tb := x_ins [353, 355, 357, 359, 361, 363, 365, 367, 369] (by decide +kernel)
theorem x_df9 : ∀ j, j < 9 → defaultValue (tyX9 j) = vp_V ((x_new.getD 9 []).map (fun f => x_fv 0 f)) j := by decide +kernel
theorem x_in10 : ∀ w ∈ wsX100, w ∈ x_tb := x_ins [943, 945, 947, 949, 951, 953, 955, 957, 959, 961, 963, 965, 967, 969, 971, 973, 975, 977, 979, 981, 983, 985, 987, 989, 991, 993, 995, 997, 999, 1001, 1003, 1005, 1007, 1009, 1011, 1013, 1015, 1017, 1019] (by decide +kernel)
theorem x_df10 : ∀ j, j < 39 → defaultValue (tyX10 j) = vp_V ((x_new.getD 10 []).map (fun f => x_fv 0 f)) j := by decide +kernel
theorem x_cls : ∀ (ci : Nat) (q : vw_C), vwCl[ci]? = some q → x_Cl ci q := by
  intro ci q hq
  match ci, hq with
  | 0, hq => cases hq; exact ⟨x_in0, tyX0, tyX0_ok, nmX0, x_df0⟩
  | 1, hq => cases hq; exact ⟨x_in1, tyX1, tyX1_ok, nmX1, x_df1⟩
  | 2, hq => cases hq; exact ⟨x_in2, tyX2, tyX2_ok, nmX2, x_df2⟩
  | 3, hq => cases hq; exact ⟨x_in3, tyX3, tyX3_ok, nmX3, x_df3⟩
  | 4, hq => cases hq; exact ⟨x_in4, tyX4, tyX4_ok, nmX4, x_df4⟩
  | 5, hq => cases hq; exact ⟨x_in5, tyX5, tyX5_ok, nmX5, x_df5⟩
  | 6, hq => cases hq; exact ⟨x_in6, tyX6, tyX6_ok, nmX6, x_df6⟩
  | 7, hq => cases hq; exact ⟨x_in7, tyX7, tyX7_ok, nmX7, x_df7⟩
  | 8, hq => cases hq; exact ⟨x_in8, tyX8, tyX8_ok, nmX8, x_df8⟩
  | 9, hq => cases hq; exact ⟨x_in9, tyX9, tyX9_ok, nmX9, x_df9⟩
  | 10, hq => cases hq; exact ⟨x_in10, tyX10, tyX10_ok, nmX10, x_df10⟩
  | k + 11, hq => simp [vwCl] at hq
theorem x_new_ok : ∀ l ∈ x_new, ∀ f ∈ l, f = none ∨ f = some none := by decide +kernel
theorem x_new_v (g : xG) (ci : Nat) : (x_new.getD ci []).mapIdx (fun _ f => x_v g (x_fv 0 f)) = (x_new.getD ci []).map (fun f => x_fv 0 f) := by
  have h : ∀ f ∈ x_new.getD ci [], f = none ∨ f = some none := by
    intro f hf
    by_cases hl : ci < x_new.length
    · rw [List.getD_eq_getElem?_getD, List.getElem?_eq_getElem hl] at hf
      exact x_new_ok _ (List.getElem_mem hl) f hf
    · rw [List.getD_eq_getElem?_getD, List.getElem?_eq_none (by omega)] at hf
      simp at hf
  apply List.ext_getElem?
  intro i
  simp only [List.getElem?_mapIdx, List.getElem?_map]
  cases hi : (x_new.getD ci [])[i]? with
  | none => rfl
  | some f =>
    rcases h f (List.mem_of_getElem? hi) with rfl | rfl <;> rfl
theorem x_z_same {σ : Nat → Nat → Int32} {a i : Nat} (h : i ≠ a) : x_z σ a i = σ i := by funext j; simp [x_z, h]
theorem x_u_same {σ : Nat → Nat → Int32} {a k i : Nat} {x : Int32} (h : i ≠ a) : x_u σ a k x i = σ i := by funext j; simp [x_u, h]
theorem x_H.w {g : xG} {w : xW} {H H1 : Heap} {σ : Nat → Nat → Int32} (h : x_H g w H) (hz : H1.size = H.size) (hP : va_P (x_D g) vwCl (x_cs g (w.1, σ)) H1) (h0 : σ 1000 = w.2 1000) (h1 : σ 1001 = w.2 1001) : x_H g (w.1, σ) H1 :=
  ⟨hz.trans h.1, h.2.1, hP, fun j hj => by show σ 1000 j = _; rw [h0]; exact h.2.2.2.1 j hj, by show σ 1001 0 = _; rw [h1]; exact h.2.2.2.2⟩
/-- an int field's or a reference field's store -/
theorem x_put {M : xM} {g : xG} {p : Program} {l : Launch} {e : Env} {s : State} {m : MethodId} {args : Array Value} {below : List Frame} {meth : Method} {co : Code} {H : Heap} {locs : List Loc} {ls : Array Slot} {Qf : State → Prop} {w : xW} {cs ss pc a ci k i wi : Nat} {rest : List Value} {fs : List (Option (Option Nat))} {q : vw_C} {v : Value} {ty : FieldType}
    (X : x_X M g p s m args meth co) (hH : x_H g w H) (hS : va_S (x_A g) s.heap H locs) (ha : w.1[a]? = some (.inr (ci, fs))) (hc : vwCl[ci]? = some q) (hk : k < q.2.2) (hwd : x_wd wi (.fieldLink M.1.cls i (q.2.1 k).1 (q.2.1 k).2.1 (q.2.1 k).2.2.1) = true)
    (hfin : (q.2.1 k).2.2.2 = false ∨ (q.2.1 k).2.2.2 = true ∧ M.1.name = "<init>" ∧ (q.2.1 k).1 = M.1.cls) (hd : parseFieldDescriptor (q.2.1 k).2.2.1 = some ty) (hn : narrow ty v = v) (hfit : fits ty v = true) (hl : k < fs.length) (hdg : decode M.2.1 pc = .ok (.putfield i, 3))
    (kk : ∀ (H1 : Heap) (locs1 : List Loc), va_P (x_D g) vwCl ((x_cs g w).set a (x_h g + a, .inr (ci, (fs.mapIdx (fun j f => x_v g (x_fv (w.2 a j) f))).set k v))) H1 → H1.size = H.size → va_S (x_A g) s.heap H1 locs1 → W p l e M.2.2.2.2 s m args below meth co H1 locs1 cs ss Qf (F0 m (pc + 3) ls rest)) :
    W p l e M.2.2.2.2 s m args below meth co H locs cs ss Qf (F0 m pc ls (v :: .ref (x_ad g a) :: rest)) := by
  obtain ⟨hx, hb, -, -, -, hown, hts, hname, hK⟩ := X
  obtain ⟨C, T, N⟩ := q
  obtain ⟨hin, ty0, hty, hnm, -⟩ := x_cls ci _ hc
  have hin' : ∀ w ∈ u_ws C T N, w ∈ x_ws M := fun w hw => List.mem_cons_of_mem _ (hin w hw)
  have hap := va_apart (own := M.1.cls) (args := args) (s := s) hts hin' ty0 hty hnm hK.1 hc
  have hlink := hts _ (x_wd_in (M := M) hwd)
  have hal : a < 1000 := Nat.lt_trans (x_lt ha) hH.2.1
  rw [x_ad_lt hal]
  have hP := hH.2.2.1
  have he := x_cs_at (g := g) ha
  obtain ⟨r, h1, cell, q1, q2, q3, q4⟩ := hP a _ he
  have hr : r = (C, T, N) := Option.some.inj (h1.symm.trans hc)
  subst hr
  obtain ⟨hS1, hfc, kC, hkC, hkind⟩ := hK.1.1 ci _ hc
  obtain ⟨cf, kf, fi, f, hi, hsl⟩ := hS1 k hk
  have hlay := hts _ (hin' _ (u_in_lay hk))
  have hst := (u_facts hfc hkC (u_lays hts hin' hk) hi).1
  have fin : ∀ (H' : Heap), H'[x_h g + a]? = some (cell.setSlot f.slot v) → H'.size = H.size → (∀ q, q ≠ x_h g + a → H'[q]? = H[q]?) → W p l e M.2.2.2.2 s m args below meth co H' (locs ++ [⟨x_h g + a, f.slot⟩]) cs ss Qf (F0 m (pc + 3) ls rest) := by
    intro H' e1 e2 e3
    rw [hsl] at e1 ⊢
    refine kk H' _ (hP.set (x_D_of (w := w)) he ⟨_, hc, t_OB.to (V := updV (vp_V (fs.mapIdx (fun j f => x_v g (x_fv (w.2 a j) f)))) k v) ⟨_, e1, q2, q3, t_set q4 hap hk v⟩ (fun j _ => vp_updV_set (by simpa using hl) v j)⟩ e3) e2 (hS.put e2 e3 (Nat.le_add_right _ _))
  rcases hfin with hf | ⟨hf, hnm2, hdecl⟩
  · unfold u_lay at hlay
    rw [if_neg (by rw [hf]; decide)] at hlay
    have h6 := u_store hfc hkC hkind hlay hi hd hn hfit
    exact W.putK hx hb (f := f) ⟨hown, hlink, ⟨_, _, _, hi⟩, hst⟩ (by rw [q2]; exact h6) q1 q3 (by rw [hsl]; exact k2_hasslot (q4 k hk)) rfl rfl hdg fin
  · unfold u_lay at hlay
    rw [if_pos hf] at hlay
    have hcf : m.cls = cf := by
      obtain ⟨_, _, c', _, _, _, -, -, hf', -, -, -, hown2, -⟩ := Cond.laysFinal_spec hlay
      have e1 : c' = cf := by have := hi.symm.trans hf'; simp at this; exact this.1.symm
      rw [show (T k).1 = M.1.cls from hdecl] at hown2
      rw [← e1]; exact Option.some.inj (hown.symm.trans hown2)
    have h6 := u_fits hfc hkC hkind (Or.inr hlay) hi hd hn hfit
    exact W.putFinK hx hb hown hlink hi hst hcf (by rw [hname]; exact hnm2) (by rw [q2]; exact h6) q1 q3 (by rw [hsl]; exact k2_hasslot (q4 k hk)) rfl rfl hdg fin
/-- an array's store -/
theorem x_iast {M : xM} {g : xG} {p : Program} {l : Launch} {e : Env} {s : State} {m : MethodId} {args : Array Value} {below : List Frame} {meth : Method} {co : Code} {H : Heap} {locs : List Loc} {ls : Array Slot} {Qf : State → Prop} {w : xW} {cs ss pc a n : Nat} {rest : List Value} {i x : Int32}
    (X : x_X M g p s m args meth co) (hH : x_H g w H) (hS : va_S (x_A g) s.heap H locs) (ha : w.1[a]? = some (.inl n)) (hin : vp_in i n) (hdg : decode M.2.1 pc = .ok (.iastore, 1))
    (kk : ∀ (H1 : Heap) (locs1 : List Loc), x_H g (w.1, x_u w.2 a i.toNatClampNeg x) H1 → va_S (x_A g) s.heap H1 locs1 → W p l e M.2.2.2.2 s m args below meth co H1 locs1 cs ss Qf (F0 m (pc + 1) ls rest)) :
    W p l e M.2.2.2.2 s m args below meth co H locs cs ss Qf (F0 m pc ls (.int x :: .int i :: .ref (x_ad g a) :: rest)) := by
  obtain ⟨hx, hb, -, -, -, hown, hts, hname, hK⟩ := X
  have hal : a < 1000 := Nat.lt_trans (x_lt ha) hH.2.1
  rw [x_ad_lt hal]
  have hP := hH.2.2.1
  have he := x_cs_at (g := g) ha
  refine W.iast hx hb (hP a _ he) ((hK.1.2 0 _ rfl).1 n (fun j => .int (w.2 a j))) (fun q => by cases q) (by show ¬ (i < 0 ∨ (arrV _ _ _).slots.size ≤ _); rw [arrV_size]; exact hin) rfl rfl hdg fun H1 e1 z oq => ?_
  refine kk H1 _ (hH.w z ?_ (x_u_same (by omega)) (x_u_same (by omega))) (hS.put z oq (Nat.le_add_right _ _))
  rw [← x_set_a ha]
  refine hP.set (x_D_of (w := w)) he ?_ oq
  show H1[x_h g + a]? = some (vp_cell _ _)
  rw [e1]
  show some ((vp_cell _ _).setSlot _ _) = _
  rw [vp_cell_i, vp_cell_i, arrV_store]
  congr 2
  funext q
  by_cases hq : q = i.toNatClampNeg
  · subst hq
    simp [updV, upd]
  · simp [updV, upd, hq]
