theorem x_cs_push {g : xG} {w : xW} {sh : xS} {σ : Nat → Nat → Int32} (hσ : ∀ i, i < w.1.length → σ i = w.2 i) : x_cs g (w.1 ++ [sh], σ) = x_cs g w ++ [(x_h g + w.1.length, x_c g σ w.1.length sh)] := by
  apply List.ext_getElem?
  intro i
  by_cases hi : i < w.1.length
  · rw [List.getElem?_append_left (by simpa [x_cs] using hi)]
    simp only [x_cs, List.getElem?_mapIdx]
    rw [List.getElem?_append_left hi]
    congr 1
    funext sh
    cases sh <;> simp only [x_c, hσ i hi]
  · rw [List.getElem?_append_right (by simp [x_cs]; omega)]
    simp only [x_cs, List.getElem?_mapIdx, List.length_mapIdx]
    rw [List.getElem?_append_right (by omega)]
    by_cases h2 : i = w.1.length
    · subst h2
      simp
    · have h3 : ([sh] : List xS)[i - w.1.length]? = none := by rw [List.getElem?_eq_none]; simp; omega
      rw [h3]
      rw [List.getElem?_eq_none]
      · rfl
      · simp; omega
/-- a new cell's world -/
theorem x_H.push {g : xG} {w : xW} {H H1 : Heap} {sh : xS} (h : x_H g w H) (hl : w.1.length + 1 < 1000) (hz : H1.size = H.size + 1) (hq : ∀ q, q < H.size → H1[q]? = H[q]?) (hc : va_at (x_D g) vwCl (x_h g + w.1.length, x_c g (x_z w.2 w.1.length) w.1.length sh) H1) : x_H g (w.1 ++ [sh], x_z w.2 w.1.length) H1 := by
  obtain ⟨h1, h2, h3, h4, h5⟩ := h
  refine ⟨by rw [hz, h1, List.length_append]; rfl, by rw [List.length_append]; exact hl, ?_, fun j hj => ?_, ?_⟩
  · rw [x_cs_push (fun i hi => x_z_same (by omega))]
    refine (h3.kept (fun k q hk => hq q.1 (h3 k q hk).lt)).app (fun k q hk => ?_)
    have hk0 : k < 1 := (List.getElem?_eq_some_iff.mp hk).1
    rw [show k = 0 by omega] at hk
    cases hk
    exact hc
  · show x_z w.2 w.1.length 1000 j = _
    rw [x_z_same (by omega)]
    exact h4 j hj
  · show x_z w.2 w.1.length 1001 0 = _
    rw [x_z_same (by omega)]
    exact h5
theorem x_zz {σ : Nat → Nat → Int32} {a j : Nat} : x_z σ a a j = 0 := by simp [x_z]
theorem x_S_grow {g : xG} {s : State} {H H1 : Heap} {locs : List Loc} (hS : va_S (x_A g) s.heap H locs) (hz : H1.size = H.size + 1) (hq : ∀ q, q < H.size → H1[q]? = H[q]?) : va_S (x_A g) s.heap H1 locs :=
  ⟨Nat.le_trans hS.1 (by omega), fun x h1 h2 => (hq x (Nat.lt_of_lt_of_le h1 hS.1)).trans (hS.2.1 x h1 h2), hS.2.2⟩
/-- a new object -/
theorem x_newo {M : xM} {g : xG} {p : Program} {l : Launch} {e : Env} {s : State} {m : MethodId} {args : Array Value} {below : List Frame} {meth : Method} {co : Code} {H : Heap} {locs : List Loc} {ls : Array Slot} {Qf : State → Prop} {w : xW} {cs ss pc ci i wl wi wn : Nat} {rest : List Value} {q : vw_C}
    (X : x_X M g p s m args meth co) (hH : x_H g w H) (hS : va_S (x_A g) s.heap H locs) (hc : vwCl[ci]? = some q) (h1 : x_wd wl (.classLink M.1.cls i q.1) = true) (h2 : x_wd wi (.instantiable q.1 q.2.2) = true) (h3 : x_wd wn (.initialized q.1) = true)
    (hcells : cs + 1 ≤ M.2.2.2.2.cells) (hslots : ss + q.2.2 ≤ M.2.2.2.2.slots) (hlen : w.1.length + 1 < 1000) (hdg : decode M.2.1 pc = .ok (.new i, 3))
    (kk : ∀ (H1 : Heap), x_H g (w.1 ++ [.inr (ci, x_new.getD ci [])], x_z w.2 w.1.length) H1 → va_S (x_A g) s.heap H1 locs → W p l e M.2.2.2.2 s m args below meth co H1 locs (cs + 1) (ss + q.2.2) Qf (F0 m (pc + 3) ls (.ref (x_ad g w.1.length) :: rest))) :
    W p l e M.2.2.2.2 s m args below meth co H locs cs ss Qf (F0 m pc ls rest) := by
  obtain ⟨hx, hb, -, -, -, hown, hts, hname, hK⟩ := X
  obtain ⟨C, T, N⟩ := q
  obtain ⟨hin, ty0, hty, hnm, hdf⟩ := x_cls ci _ hc
  have hin' : ∀ w ∈ u_ws C T N, w ∈ x_ws M := fun w hw => List.mem_cons_of_mem _ (hin w hw)
  have hKn := hK.1.1 ci _ hc
  refine W.newcK hx hb hown (hts _ (x_wd_in (M := M) h1)) (hts _ (x_wd_in (M := M) h2)) (hts _ (x_wd_in (M := M) h3)) rfl hdg hcells hslots hKn.2.1 hH.1 fun H1 kC hkC e1 z1 o1 => ?_
  have hz : H1.size = H.size + 1 := by rw [z1, hH.1]
  have ho : ∀ q, q < H.size → H1[q]? = H[q]? := fun q hq => o1 q (by rw [← hH.1]; exact hq)
  have hK1 : x_H g (w.1 ++ [.inr (ci, x_new.getD ci [])], x_z w.2 w.1.length) H1 := by
    refine hH.push hlen hz ho ⟨_, hc, ?_⟩
    show t_OB _ _ _ _ _ (vp_V ((x_new.getD ci []).mapIdx _))
    have e0 : (x_new.getD ci []).mapIdx (fun j f => x_v g (x_fv (x_z w.2 w.1.length w.1.length j) f)) = (x_new.getD ci []).map (fun f => x_fv 0 f) := by
      rw [← x_new_v g ci]
      congr 1
      funext j f
      rw [x_zz]
    rw [e0]
    exact (u_born ty0 hts hin' hKn hkC e1 hty).to hdf
  have hk := kk H1 hK1 (x_S_grow hS hz ho)
  rw [x_ad_lt (by omega)] at hk
  exact hk
/-- a new array of ints -/
theorem x_newi {M : xM} {g : xG} {p : Program} {l : Launch} {e : Env} {s : State} {m : MethodId} {args : Array Value} {below : List Frame} {meth : Method} {co : Code} {H : Heap} {locs : List Loc} {ls : Array Slot} {Qf : State → Prop} {w : xW} {cs ss pc wl : Nat} {rest : List Value} {n : Int32}
    (X : x_X M g p s m args meth co) (hH : x_H g w H) (hS : va_S (x_A g) s.heap H locs) (h1 : x_wd wl (.arrayClass .int) = true) (hn : ¬ n < 0) (hN : n.toNatClampNeg ≤ 1000)
    (hcells : cs + 1 ≤ M.2.2.2.2.cells) (hslots : ss + n.toNatClampNeg ≤ M.2.2.2.2.slots) (hlen : w.1.length + 1 < 1000) (hdg : decode M.2.1 pc = .ok (.newarray .int, 2))
    (kk : ∀ (H1 : Heap), x_H g (w.1 ++ [.inl n.toNatClampNeg], x_z w.2 w.1.length) H1 → va_S (x_A g) s.heap H1 locs → W p l e M.2.2.2.2 s m args below meth co H1 locs (cs + 1) (ss + n.toNatClampNeg) Qf (F0 m (pc + 2) ls (.ref (x_ad g w.1.length) :: rest))) :
    W p l e M.2.2.2.2 s m args below meth co H locs cs ss Qf (F0 m pc ls (.int n :: rest)) := by
  obtain ⟨hx, hb, -, -, -, hown, hts, hname, hK⟩ := X
  refine va_newaK (atype := .int) hx hb (hts _ (x_wd_in (M := M) h1)) rfl hdg rfl hn rfl (by show n.toNatClampNeg * 4 ≤ 536870912; omega) hcells hslots hH.1 fun H1 cA e1 z1 o1 hAr hNm => ?_
  have hcA : cA = x_cI g := by
    have h9 : s.vm.findClass ("[" ++ (FieldType.int).toString) = some (x_cI g) := (hK.1.2 0 _ rfl).2
    exact Option.some.inj (hNm.symm.trans h9)
  subst hcA
  have hz : H1.size = H.size + 1 := by rw [z1, hH.1]
  have ho : ∀ q, q < H.size → H1[q]? = H[q]? := fun q hq => o1 q (by rw [← hH.1]; exact hq)
  have hK1 : x_H g (w.1 ++ [.inl n.toNatClampNeg], x_z w.2 w.1.length) H1 := by
    refine hH.push hlen hz ho ?_
    show H1[x_h g + w.1.length]? = some (vp_cell _ _)
    rw [e1, vp_cell_i]
    congr 2
    funext q
    rw [x_zz]
    rfl
  have hk := kk H1 hK1 (x_S_grow hS hz ho)
  rw [x_ad_lt (by omega)] at hk
  exact hk
