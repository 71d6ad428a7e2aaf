/-! ===== each instruction's rule ===== -/
theorem x_G_of {M : xM} {Ex : xEx} {pc pc' : Nat} {lv : List (Option Value)} {st st' : List Value} {w : xW} {cs ss : Nat}
    (h : ∀ (g : xG) (p : Program) (l : Launch) (e : Env) (s : State) (m : MethodId) (args : Array Value) (below : List Frame) (meth : Method) (co : Code) (H : Heap) (locs : List Loc) (ls : Array Slot) (Qf : State → Prop), x_X M g p s m args meth co → x_H g w H → va_S (x_A g) s.heap H locs → x_lv g ls M.2.2.1 lv →
      W p l e M.2.2.2.2 s m args below meth co H locs cs ss Qf (F0 m pc' ls (st'.map (x_v g))) → W p l e M.2.2.2.2 s m args below meth co H locs cs ss Qf (F0 m pc ls (st.map (x_v g))))
    (k : x_G M Ex (pc', lv, st', w, cs, ss)) : x_G M Ex (pc, lv, st, w, cs, ss) :=
  fun g p l e s m args below meth co H locs ls Qf X E hH hS hL => h g p l e s m args below meth co H locs ls Qf X hH hS hL (k g p l e s m args below meth co H locs ls Qf X E hH hS hL)
/-- .. of two ways on -/
theorem x_G_of2 {M : xM} {Ex : xEx} {pc pc' pc2 : Nat} {lv : List (Option Value)} {st st' : List Value} {w : xW} {cs ss : Nat} {a b : Prop}
    (h : ∀ (g : xG) (p : Program) (l : Launch) (e : Env) (s : State) (m : MethodId) (args : Array Value) (below : List Frame) (meth : Method) (co : Code) (H : Heap) (locs : List Loc) (ls : Array Slot) (Qf : State → Prop), x_X M g p s m args meth co →
      (a → W p l e M.2.2.2.2 s m args below meth co H locs cs ss Qf (F0 m pc' ls (st'.map (x_v g)))) → (b → W p l e M.2.2.2.2 s m args below meth co H locs cs ss Qf (F0 m pc2 ls (st'.map (x_v g)))) → W p l e M.2.2.2.2 s m args below meth co H locs cs ss Qf (F0 m pc ls (st.map (x_v g))))
    (k1 : a → x_G M Ex (pc', lv, st', w, cs, ss)) (k2 : b → x_G M Ex (pc2, lv, st', w, cs, ss)) : x_G M Ex (pc, lv, st, w, cs, ss) :=
  fun g p l e s m args below meth co H locs ls Qf X E hH hS hL => h g p l e s m args below meth co H locs ls Qf X (fun z => k1 z g p l e s m args below meth co H locs ls Qf X E hH hS hL) (fun z => k2 z g p l e s m args below meth co H locs ls Qf X E hH hS hL)
/-- .. where the locals change -/
theorem x_G_lv {M : xM} {Ex : xEx} {pc pc' : Nat} {lv lv' : List (Option Value)} {st st' : List Value} {w : xW} {cs ss : Nat}
    (h : ∀ (g : xG) (p : Program) (l : Launch) (e : Env) (s : State) (m : MethodId) (args : Array Value) (below : List Frame) (meth : Method) (co : Code) (H : Heap) (locs : List Loc) (ls : Array Slot) (Qf : State → Prop), x_X M g p s m args meth co → x_lv g ls M.2.2.1 lv →
      (∀ ls' : Array Slot, x_lv g ls' M.2.2.1 lv' → W p l e M.2.2.2.2 s m args below meth co H locs cs ss Qf (F0 m pc' ls' (st'.map (x_v g)))) → W p l e M.2.2.2.2 s m args below meth co H locs cs ss Qf (F0 m pc ls (st.map (x_v g))))
    (k : x_G M Ex (pc', lv', st', w, cs, ss)) : x_G M Ex (pc, lv, st, w, cs, ss) :=
  fun g p l e s m args below meth co H locs ls Qf X E hH hS hL => h g p l e s m args below meth co H locs ls Qf X hL (fun ls' hL' => k g p l e s m args below meth co H locs ls' Qf X E hH hS hL')
def x_ll (g : xG) (lv : List (Option Value)) : List (Nat × Value) := lv.zipIdx.filterMap (fun q => q.1.map (fun v => (q.2, x_v g v)))
theorem x_ll_mem {g : xG} {lv : List (Option Value)} {q : Nat × Value} : q ∈ x_ll g lv ↔ ∃ v, lv[q.1]? = some (some v) ∧ q.2 = x_v g v := by
  simp only [x_ll, List.mem_filterMap, List.mem_zipIdx_iff_getElem?, Option.map_eq_some_iff, Prod.exists]
  constructor
  · rintro ⟨a, b, h1, v, rfl, rfl⟩
    exact ⟨v, h1, rfl⟩
  · rintro ⟨v, h1, h2⟩
    exact ⟨some v, q.1, h1, v, rfl, by rw [← h2]⟩
theorem x_lv_has {g : xG} {ls : Array Slot} {nL : Nat} {lv : List (Option Value)} (h : x_lv g ls nL lv) : lv_has ls nL (x_ll g lv) := by
  refine ⟨h.2.1, h.2.2.1, fun q hq => ?_⟩
  obtain ⟨v, h1, h2⟩ := x_ll_mem.mp hq
  rw [h2]
  exact (h.2.2.2 q.1 v h1).2
theorem x_lv_back {g : xG} {ls ls' : Array Slot} {nL i : Nat} {lv : List (Option Value)} {v : Value} (h : x_lv g ls nL lv) (hc : v.category = 1)
    (h' : lv_has ls' nL ((i, x_v g v) :: (x_ll g lv).filter (fun q => !(q.1 == i) && !(q.1 + 1 == i && q.2.category == 2)))) : x_lv g ls' nL (lv.set i (some v)) := by
  refine ⟨by rw [List.length_set]; exact h.1, h'.1, h'.2.1, fun j u hj => ?_⟩
  rw [List.getElem?_set] at hj
  by_cases hij : i = j
  · subst hij
    rw [if_pos rfl] at hj
    split at hj
    · cases hj
      exact ⟨hc, h'.2.2 (i, x_v g v) List.mem_cons_self⟩
    · cases hj
  · rw [if_neg hij] at hj
    have hu := h.2.2.2 j u hj
    refine ⟨hu.1, h'.2.2 (j, x_v g u) (List.mem_cons_of_mem _ (List.mem_filter.mpr ⟨x_ll_mem.mpr ⟨u, hj, rfl⟩, ?_⟩))⟩
    have e1 : (j == i) = false := by simpa using Ne.symm hij
    have e2 : ((x_v g u).category == 2) = false := by rw [x_cat, hu.1]; rfl
    simp [e1, e2]
/-- a call -/
theorem x_run {p : Program} {l : Launch} {e : Env} {R : Room} {s : State} {m : MethodId} {args a : Array Value} {below : List Frame} {meth : Method} {c : Code} {H : Heap} {locs : List Loc} {cells slots mc ms pc : Nat} {Qf : State → Prop} {ls : Array Slot} {st0 rest : List Value} {g : xG} {Q : Option Value → xW → Prop}
    (hr : va_Run p l e R s m args below meth c H locs cells slots mc ms (F0 m pc ls st0) rest (x_Q g Q a) (x_A g)) (hS : va_S (x_A g) s.heap H locs)
    (kk : ∀ (r : Option Value) (w : xW) (H1 : Heap) (locs1 : List Loc), Q r w → x_H g w H1 → va_S (x_A g) s.heap H1 locs1 → W p l e R s m args below meth c H1 locs1 (cells + mc) (slots + ms) Qf (F0 m (pc + 3) ls ((r.map (x_v g)).toList ++ rest))) : W p l e R s m args below meth c H locs cells slots Qf (F0 m pc ls st0) := by
  intro T hT X
  obtain ⟨v, st₀, t, T', L, h0, X', hL, e1, e2, ⟨⟨r, w, hv, hq, hw⟩, hz, hk⟩, st⟩ := hr T hT X
  cases hv
  rw [h0] at hz hk
  obtain ⟨t2, a1, b1⟩ := kk r w T'.heap (locs ++ L) hq (by rw [e1]; exact hw)
    ⟨Nat.le_trans hS.1 (by rw [e1]; exact hz), fun q h1 h2 => by rw [e1, hk q (Nat.lt_of_lt_of_le h1 hS.1) h2]; exact hS.2.1 q h1 h2, fun q hq => by
      rcases List.mem_append.mp hq with h | h
      · exact hS.2.2 q h
      · exact hL q h⟩ T' rfl X'
  exact ⟨t2, st t2 a1, b1⟩
